/-! Walks, leaves inlined: the reference, the rest -/
-- faulted ()I
theorem v248_0 {sc : Option (Nat × (Nat → Int32))} {d k n : Nat} {P : am_O → Prop} {I : am_I} {J : am_J} {Pf : am_R} (hp : am_PF Pf)  (q : (P (.inl (some (.int (I 163 10))), (am_SH, am_u I 163 0 0, J, Pf), k, n))) : am_go sc d 248 (0, [some (.ref 163)], [], (am_SH, I, J, Pf), k, n) P := by
  refine am_s_aload_n rfl dc248_0.1.1 ?_
  refine am_s_iconst am_cc0 dc248_0.1.2.1 ?_
  refine am_s_putI dc248_0.1.2.2 rfl rfl rfl rfl ?_
  refine am_s_aload_n rfl dc248_0.2.1 ?_
  refine am_x_getI (x := I 163 10) dc248_0.2.2.1 rfl rfl (Or.inl rfl) rfl ?_
  exact am_s_ireturn dc248_0.2.2.2 rfl (q)
-- goesSteps (II)V
theorem v249_0 {sc : Option (Nat × (Nat → Int32))} {d k n : Nat} {P : am_O → Prop} {I : am_I} {J : am_J} {Pf : am_R} (hp : am_PF Pf) {x1 : Int32} {x2 : Int32} {l3 : Option Value} {l4 : Option Value} {l5 : Option Value} (q : (am_go sc d 249 (2, [some (.ref 163), some (.int x1), some (.int x2), some (.int x1), l4, l5], [], (am_SH, I, J, Pf), k, n) P)) : am_go sc d 249 (0, [some (.ref 163), some (.int x1), some (.int x2), l3, l4, l5], [], (am_SH, I, J, Pf), k, n) P := by
  refine am_s_iload_n rfl dc249_0.1.1.1 ?_
  refine am_s_istore_n (ls' := [some (.ref 163), some (.int x1), some (.int x2), some (.int x1), l4, l5]) rfl rfl dc249_0.1.1.2 ?_
  exact q
theorem v249_2 {sc : Option (Nat × (Nat → Int32))} {d k n : Nat} {P : am_O → Prop} {I : am_I} {J : am_J} {Pf : am_R} (hp : am_PF Pf) {l1 : Option Value} {x2 : Int32} {x3 : Int32} {l4 : Option Value} {l5 : Option Value} (q : (if x2 ≤ x3 then (P (.inl none, (am_SH, I, J, Pf), k, n)) else (if 200 ≤ (I 163 36) then (P (.inl none, (am_SH, I, J, Pf), k, n)) else (am_in x3 600 = true) ∧ (if (I 179 (Int32.toNatClampNeg x3)) = 3 then (am_in (x3 + 2) 600 = true) ∧ (am_go sc d 249 (50, [some (.ref 163), l1, some (.int x2), some (.int x3), some (.int (I 179 (Int32.toNatClampNeg (x3 + 2)))), some (.int 0)], [], (am_SH, am_u I 163 36 ((I 163 36) + 1), J, Pf), k, n) P) else (am_in x3 600 = true) ∧ (if (I 179 (Int32.toNatClampNeg x3)) = 0 then (am_in (x3 + 1) 600 = true) ∧ (am_in (x3 + 3) 600 = true) ∧ (am_mth d 250 [.ref 180, .int (I 179 (Int32.toNatClampNeg (x3 + 1))), .ref 179, .int (x3 + 4), .int (I 179 (Int32.toNatClampNeg (x3 + 3)))] (am_SH, am_u I 163 36 ((I 163 36) + 1), J, Pf) (am_af sc d 249 131 [some (.ref 163), l1, some (.int x2), some (.int x3), l4, l5] [.int (I 179 (Int32.toNatClampNeg (x3 + 3))), .int (x3 + 4), .ref 179, .int (I 179 (Int32.toNatClampNeg (x3 + 1))), .ref 180] [] (am_SH, am_u I 163 36 ((I 163 36) + 1), J, Pf) k n false P)) else (am_in x3 600 = true) ∧ (if (I 179 (Int32.toNatClampNeg x3)) = 1 then (am_in (x3 + 1) 600 = true) ∧ (am_in (x3 + 2) 600 = true) ∧ (am_mth d 251 [.ref 180, .int (I 179 (Int32.toNatClampNeg (x3 + 1))), .int (I 179 (Int32.toNatClampNeg (x3 + 2)))] (am_SH, am_u I 163 36 ((I 163 36) + 1), J, Pf) (am_af sc d 249 167 [some (.ref 163), l1, some (.int x2), some (.int x3), l4, l5] [.int (I 179 (Int32.toNatClampNeg (x3 + 2))), .int (I 179 (Int32.toNatClampNeg (x3 + 1))), .ref 180] [] (am_SH, am_u I 163 36 ((I 163 36) + 1), J, Pf) k n false P)) else (am_in (x3 + 1) 600 = true) ∧ (am_in (x3 + 2) 600 = true) ∧ (am_mth d 252 [.ref 180, .int (I 179 (Int32.toNatClampNeg (x3 + 1))), .int (I 179 (Int32.toNatClampNeg (x3 + 2)))] (am_SH, am_u I 163 36 ((I 163 36) + 1), J, Pf) (am_af sc d 249 193 [some (.ref 163), l1, some (.int x2), some (.int x3), l4, l5] [.int (I 179 (Int32.toNatClampNeg (x3 + 2))), .int (I 179 (Int32.toNatClampNeg (x3 + 1))), .ref 180] [] (am_SH, am_u I 163 36 ((I 163 36) + 1), J, Pf) k n false P)))))))) : am_go sc d 249 (2, [some (.ref 163), l1, some (.int x2), some (.int x3), l4, l5], [], (am_SH, I, J, Pf), k, n) P := by
  refine am_s_iload_n rfl dc249_0.1.2.1 ?_
  refine am_s_iload_n rfl dc249_0.1.2.2 ?_
  refine am_s_ic_ge dc249_0.2.1.1 rfl (fun c1 => ?_) (fun c1 => ?_)
  · exact am_s_return dc249_16.2.2.2 rfl ((vi_t q c1))
  · refine am_s_aload_n rfl dc249_0.2.1.2 ?_
    refine am_x_getI (x := I 163 36) dc249_0.2.2.1 rfl rfl (Or.inl rfl) rfl ?_
    refine am_s_sipush am_cs200 dc249_0.2.2.2 ?_
    refine am_s_ic_ge dc249_1.1.1.1 rfl (fun c2 => ?_) (fun c2 => ?_)
    · exact am_s_return dc249_16.2.2.2 rfl ((vi_t (vi_f q c1) c2))
    · refine am_s_aload_n rfl dc249_1.1.1.2 ?_
      refine am_s_dup rfl dc249_1.1.2.1 ?_
      refine am_x_getI (x := I 163 36) dc249_1.1.2.2 rfl rfl (Or.inl rfl) rfl ?_
      refine am_s_iconst am_cc1 dc249_1.2.1.1 ?_
      refine am_s_iadd dc249_1.2.1.2 ?_
      refine am_s_putI dc249_1.2.2.1 rfl rfl rfl rfl ?_
      refine am_s_aload_n rfl dc249_1.2.2.2 ?_
      refine am_s_getR (r := 179) dc249_2.1.1.1 rfl rfl rfl (hp _ _ _ rfl) ?_
      refine am_s_iload_n rfl dc249_2.1.1.2 ?_
      refine am_x_iaload (x := I 179 (Int32.toNatClampNeg x3)) dc249_2.1.2.1 rfl ((vi_f (vi_f q c1) c2).1) rfl rfl ?_
      refine am_s_iconst am_cc3 dc249_2.1.2.2 ?_
      refine am_s_ic_ne dc249_2.2.1.1 rfl (fun c3 => ?_) (fun c3 => ?_)
      · refine am_s_aload_n rfl dc249_6.2.1.2 ?_
        refine am_s_getR (r := 179) dc249_6.2.2.1 rfl rfl rfl (hp _ _ _ rfl) ?_
        refine am_s_iload_n rfl dc249_6.2.2.2 ?_
        refine am_x_iaload (x := I 179 (Int32.toNatClampNeg x3)) dc249_7.1.1.1 rfl ((vi_f (vi_f (vi_f q c1) c2).2 c3).1) rfl rfl ?_
        refine am_s_if_ne dc249_7.1.1.2 rfl (fun c4 => ?_) (fun c4 => ?_)
        · refine am_s_aload_n rfl dc249_9.2.2.2 ?_
          refine am_s_getR (r := 179) dc249_10.1.1.1 rfl rfl rfl (hp _ _ _ rfl) ?_
          refine am_s_iload_n rfl dc249_10.1.1.2 ?_
          refine am_x_iaload (x := I 179 (Int32.toNatClampNeg x3)) dc249_10.1.2.1 rfl ((vi_f (vi_f (vi_f (vi_f q c1) c2).2 c3).2 c4).1) rfl rfl ?_
          refine am_s_iconst am_cc1 dc249_10.1.2.2 ?_
          refine am_s_ic_ne dc249_10.2.1.1 rfl (fun c5 => ?_) (fun c5 => ?_)
          · refine am_s_aload_n rfl dc249_12.2.1.2 ?_
            refine am_s_getR (r := 180) dc249_12.2.2.1 rfl rfl rfl (hp _ _ _ rfl) ?_
            refine am_s_aload_n rfl dc249_12.2.2.2 ?_
            refine am_s_getR (r := 179) dc249_13.1.1.1 rfl rfl rfl (hp _ _ _ rfl) ?_
            refine am_s_iload_n rfl dc249_13.1.1.2 ?_
            refine am_s_iconst am_cc1 dc249_13.1.2.1 ?_
            refine am_s_iadd dc249_13.1.2.2 ?_
            refine am_x_iaload (x := I 179 (Int32.toNatClampNeg (x3 + 1))) dc249_13.2.1.1 rfl ((vi_f (vi_f (vi_f (vi_f (vi_f q c1) c2).2 c3).2 c4).2 c5).1) rfl rfl ?_
            refine am_s_aload_n rfl dc249_13.2.1.2 ?_
            refine am_s_getR (r := 179) dc249_13.2.2.1 rfl rfl rfl (hp _ _ _ rfl) ?_
            refine am_s_iload_n rfl dc249_13.2.2.2 ?_
            refine am_s_iconst am_cc2 dc249_14.1.1.1 ?_
            refine am_s_iadd dc249_14.1.1.2 ?_
            refine am_x_iaload (x := I 179 (Int32.toNatClampNeg (x3 + 2))) dc249_14.1.2.1 rfl ((vi_f (vi_f (vi_f (vi_f (vi_f q c1) c2).2 c3).2 c4).2 c5).2.1) rfl rfl ?_
            exact am_s_static dc249_14.1.2.2 rfl rfl rfl ((vi_f (vi_f (vi_f (vi_f (vi_f q c1) c2).2 c3).2 c4).2 c5).2.2)
          · refine am_s_aload_n rfl dc249_10.2.1.2 ?_
            refine am_s_getR (r := 180) dc249_10.2.2.1 rfl rfl rfl (hp _ _ _ rfl) ?_
            refine am_s_aload_n rfl dc249_10.2.2.2 ?_
            refine am_s_getR (r := 179) dc249_11.1.1.1 rfl rfl rfl (hp _ _ _ rfl) ?_
            refine am_s_iload_n rfl dc249_11.1.1.2 ?_
            refine am_s_iconst am_cc1 dc249_11.1.2.1 ?_
            refine am_s_iadd dc249_11.1.2.2 ?_
            refine am_x_iaload (x := I 179 (Int32.toNatClampNeg (x3 + 1))) dc249_11.2.1.1 rfl ((vi_t (vi_f (vi_f (vi_f (vi_f q c1) c2).2 c3).2 c4).2 (Decidable.not_not.mp c5)).1) rfl rfl ?_
            refine am_s_aload_n rfl dc249_11.2.1.2 ?_
            refine am_s_getR (r := 179) dc249_11.2.2.1 rfl rfl rfl (hp _ _ _ rfl) ?_
            refine am_s_iload_n rfl dc249_11.2.2.2 ?_
            refine am_s_iconst am_cc2 dc249_12.1.1.1 ?_
            refine am_s_iadd dc249_12.1.1.2 ?_
            refine am_x_iaload (x := I 179 (Int32.toNatClampNeg (x3 + 2))) dc249_12.1.2.1 rfl ((vi_t (vi_f (vi_f (vi_f (vi_f q c1) c2).2 c3).2 c4).2 (Decidable.not_not.mp c5)).2.1) rfl rfl ?_
            exact am_s_static dc249_12.1.2.2 rfl rfl rfl ((vi_t (vi_f (vi_f (vi_f (vi_f q c1) c2).2 c3).2 c4).2 (Decidable.not_not.mp c5)).2.2)
        · refine am_s_aload_n rfl dc249_7.1.2.1 ?_
          refine am_s_getR (r := 180) dc249_7.1.2.2 rfl rfl rfl (hp _ _ _ rfl) ?_
          refine am_s_aload_n rfl dc249_7.2.1.1 ?_
          refine am_s_getR (r := 179) dc249_7.2.1.2 rfl rfl rfl (hp _ _ _ rfl) ?_
          refine am_s_iload_n rfl dc249_7.2.2.1 ?_
          refine am_s_iconst am_cc1 dc249_7.2.2.2 ?_
          refine am_s_iadd dc249_8.1.1.1 ?_
          refine am_x_iaload (x := I 179 (Int32.toNatClampNeg (x3 + 1))) dc249_8.1.1.2 rfl ((vi_t (vi_f (vi_f (vi_f q c1) c2).2 c3).2 (Decidable.not_not.mp c4)).1) rfl rfl ?_
          refine am_s_aload_n rfl dc249_8.1.2.1 ?_
          refine am_s_getR (r := 179) dc249_8.1.2.2 rfl rfl rfl (hp _ _ _ rfl) ?_
          refine am_s_iload_n rfl dc249_8.2.1.1 ?_
          refine am_s_iconst am_cc4 dc249_8.2.1.2 ?_
          refine am_s_iadd dc249_8.2.2.1 ?_
          refine am_s_aload_n rfl dc249_8.2.2.2 ?_
          refine am_s_getR (r := 179) dc249_9.1.1.1 rfl rfl rfl (hp _ _ _ rfl) ?_
          refine am_s_iload_n rfl dc249_9.1.1.2 ?_
          refine am_s_iconst am_cc3 dc249_9.1.2.1 ?_
          refine am_s_iadd dc249_9.1.2.2 ?_
          refine am_x_iaload (x := I 179 (Int32.toNatClampNeg (x3 + 3))) dc249_9.2.1.1 rfl ((vi_t (vi_f (vi_f (vi_f q c1) c2).2 c3).2 (Decidable.not_not.mp c4)).2.1) rfl rfl ?_
          exact am_s_static dc249_9.2.1.2 rfl rfl rfl ((vi_t (vi_f (vi_f (vi_f q c1) c2).2 c3).2 (Decidable.not_not.mp c4)).2.2)
      · refine am_s_aload_n rfl dc249_2.2.1.2 ?_
        refine am_s_getR (r := 179) dc249_2.2.2.1 rfl rfl rfl (hp _ _ _ rfl) ?_
        refine am_s_iload_n rfl dc249_2.2.2.2 ?_
        refine am_s_iconst am_cc2 dc249_3.1.1.1 ?_
        refine am_s_iadd dc249_3.1.1.2 ?_
        refine am_x_iaload (x := I 179 (Int32.toNatClampNeg (x3 + 2))) dc249_3.1.2.1 rfl ((vi_t (vi_f (vi_f q c1) c2).2 (Decidable.not_not.mp c3)).1) rfl rfl ?_
        refine am_s_istore (ls' := [some (.ref 163), l1, some (.int x2), some (.int x3), some (.int (I 179 (Int32.toNatClampNeg (x3 + 2)))), l5]) rfl rfl dc249_3.1.2.2 ?_
        refine am_s_iconst am_cc0 dc249_3.2.1.1 ?_
        refine am_s_istore (ls' := [some (.ref 163), l1, some (.int x2), some (.int x3), some (.int (I 179 (Int32.toNatClampNeg (x3 + 2)))), some (.int 0)]) rfl rfl dc249_3.2.1.2 ?_
        exact (vi_t (vi_f (vi_f q c1) c2).2 (Decidable.not_not.mp c3)).2
theorem v249_50 {sc : Option (Nat × (Nat → Int32))} {d k n : Nat} {P : am_O → Prop} {I : am_I} {J : am_J} {Pf : am_R} (hp : am_PF Pf) {l1 : Option Value} {x2 : Int32} {x3 : Int32} {x4 : Int32} {x5 : Int32} (q : (am_in (x3 + 1) 600 = true) ∧ (if (I 179 (Int32.toNatClampNeg (x3 + 1))) ≤ x5 then (am_go sc d 249 (2, [some (.ref 163), l1, some (.int x2), some (.int x4), some (.int x4), some (.int x5)], [], (am_SH, I, J, Pf), k, n) P) else (if 200 ≤ (I 163 36) then (am_go sc d 249 (2, [some (.ref 163), l1, some (.int x2), some (.int x4), some (.int x4), some (.int x5)], [], (am_SH, I, J, Pf), k, n) P) else (am_mth d 249 [.ref 163, .int (x3 + 12), .int x4] (am_SH, I, J, Pf) (am_af sc d 249 80 [some (.ref 163), l1, some (.int x2), some (.int x3), some (.int x4), some (.int x5)] [.int x4, .int (x3 + 12), .ref 163] [] (am_SH, I, J, Pf) k n true P))))) : am_go sc d 249 (50, [some (.ref 163), l1, some (.int x2), some (.int x3), some (.int x4), some (.int x5)], [], (am_SH, I, J, Pf), k, n) P := by
  refine am_s_iload rfl dc249_3.2.2.1 ?_
  refine am_s_aload_n rfl dc249_3.2.2.2 ?_
  refine am_s_getR (r := 179) dc249_4.1.1.1 rfl rfl rfl (hp _ _ _ rfl) ?_
  refine am_s_iload_n rfl dc249_4.1.1.2 ?_
  refine am_s_iconst am_cc1 dc249_4.1.2.1 ?_
  refine am_s_iadd dc249_4.1.2.2 ?_
  refine am_x_iaload (x := I 179 (Int32.toNatClampNeg (x3 + 1))) dc249_4.2.1.1 rfl (q.1) rfl rfl ?_
  refine am_s_ic_ge dc249_4.2.1.2 rfl (fun c1 => ?_) (fun c1 => ?_)
  · refine am_s_iload rfl dc249_6.1.2.1 ?_
    refine am_s_istore_n (ls' := [some (.ref 163), l1, some (.int x2), some (.int x4), some (.int x4), some (.int x5)]) rfl rfl dc249_6.1.2.2 ?_
    refine am_s_goto rfl dc249_6.2.1.1 ?_
    exact (vi_t q.2 c1)
  · refine am_s_aload_n rfl dc249_4.2.2.1 ?_
    refine am_x_getI (x := I 163 36) dc249_4.2.2.2 rfl rfl (Or.inl rfl) rfl ?_
    refine am_s_sipush am_cs200 dc249_5.1.1.1 ?_
    refine am_s_ic_ge dc249_5.1.1.2 rfl (fun c2 => ?_) (fun c2 => ?_)
    · refine am_s_iload rfl dc249_6.1.2.1 ?_
      refine am_s_istore_n (ls' := [some (.ref 163), l1, some (.int x2), some (.int x4), some (.int x4), some (.int x5)]) rfl rfl dc249_6.1.2.2 ?_
      refine am_s_goto rfl dc249_6.2.1.1 ?_
      exact (vi_t (vi_f q.2 c1) c2)
    · refine am_s_aload_n rfl dc249_5.1.2.1 ?_
      refine am_s_iload_n rfl dc249_5.1.2.2 ?_
      refine am_s_bipush am_cb12 dc249_5.2.1.1 ?_
      refine am_s_iadd dc249_5.2.1.2 ?_
      refine am_s_iload rfl dc249_5.2.2.1 ?_
      exact am_s_virtual true dc249_5.2.2.2 rfl (by decide) rfl rfl rfl ((vi_f (vi_f q.2 c1) c2))
theorem v249_134 {sc : Option (Nat × (Nat → Int32))} {d k n : Nat} {P : am_O → Prop} {I : am_I} {J : am_J} {Pf : am_R} (hp : am_PF Pf) {l1 : Option Value} {x2 : Int32} {x3 : Int32} {l4 : Option Value} {l5 : Option Value} {s0 : Int32} (q : (if s0 = 0 then (am_go sc d 249 (2, [some (.ref 163), l1, some (.int x2), some (.int (x3 + 12)), some (.int s0), l5], [], (am_SH, am_u I 163 38 ((I 163 38) + 1), J, Pf), k, n) P) else (am_go sc d 249 (2, [some (.ref 163), l1, some (.int x2), some (.int (x3 + 12)), some (.int s0), l5], [], (am_SH, am_u I 163 37 ((I 163 37) + 1), J, Pf), k, n) P))) : am_go sc d 249 (134, [some (.ref 163), l1, some (.int x2), some (.int x3), l4, l5], [.int s0], (am_SH, I, J, Pf), k, n) P := by
  refine am_s_goto rfl dc249_9.2.2.1 ?_
  refine am_s_istore (ls' := [some (.ref 163), l1, some (.int x2), some (.int x3), some (.int s0), l5]) rfl rfl dc249_14.2.1.1 ?_
  refine am_s_iload rfl dc249_14.2.1.2 ?_
  refine am_s_if_eq dc249_14.2.2.1 rfl (fun c1 => ?_) (fun c1 => ?_)
  · refine am_s_aload_n rfl dc249_15.2.2.1 ?_
    refine am_s_dup rfl dc249_15.2.2.2 ?_
    refine am_x_getI (x := I 163 38) dc249_16.1.1 rfl rfl (Or.inl rfl) rfl ?_
    refine am_s_iconst am_cc1 dc249_16.1.2.1 ?_
    refine am_s_iadd dc249_16.1.2.2 ?_
    refine am_s_putI dc249_16.2.1.1 rfl rfl rfl rfl ?_
    refine am_s_iinc (ls' := [some (.ref 163), l1, some (.int x2), some (.int (x3 + 12)), some (.int s0), l5]) am_cc12 rfl rfl dc249_16.2.1.2 ?_
    refine am_s_goto rfl dc249_16.2.2.1 ?_
    exact (vi_t q c1)
  · refine am_s_aload_n rfl dc249_14.2.2.2 ?_
    refine am_s_dup rfl dc249_15.1.1.1 ?_
    refine am_x_getI (x := I 163 37) dc249_15.1.1.2 rfl rfl (Or.inl rfl) rfl ?_
    refine am_s_iconst am_cc1 dc249_15.1.2.1 ?_
    refine am_s_iadd dc249_15.1.2.2 ?_
    refine am_s_putI dc249_15.2.1.1 rfl rfl rfl rfl ?_
    refine am_s_goto rfl dc249_15.2.1.2 ?_
    refine am_s_iinc (ls' := [some (.ref 163), l1, some (.int x2), some (.int (x3 + 12)), some (.int s0), l5]) am_cc12 rfl rfl dc249_16.2.1.2 ?_
    refine am_s_goto rfl dc249_16.2.2.1 ?_
    exact (vi_f q c1)
theorem v249_170 {sc : Option (Nat × (Nat → Int32))} {d k n : Nat} {P : am_O → Prop} {I : am_I} {J : am_J} {Pf : am_R} (hp : am_PF Pf) {l1 : Option Value} {x2 : Int32} {x3 : Int32} {l4 : Option Value} {l5 : Option Value} {s0 : Int32} (q : (if s0 = 0 then (am_go sc d 249 (2, [some (.ref 163), l1, some (.int x2), some (.int (x3 + 12)), some (.int s0), l5], [], (am_SH, am_u I 163 38 ((I 163 38) + 1), J, Pf), k, n) P) else (am_go sc d 249 (2, [some (.ref 163), l1, some (.int x2), some (.int (x3 + 12)), some (.int s0), l5], [], (am_SH, am_u I 163 37 ((I 163 37) + 1), J, Pf), k, n) P))) : am_go sc d 249 (170, [some (.ref 163), l1, some (.int x2), some (.int x3), l4, l5], [.int s0], (am_SH, I, J, Pf), k, n) P := by
  refine am_s_goto rfl dc249_12.2.1.1 ?_
  refine am_s_istore (ls' := [some (.ref 163), l1, some (.int x2), some (.int x3), some (.int s0), l5]) rfl rfl dc249_14.2.1.1 ?_
  refine am_s_iload rfl dc249_14.2.1.2 ?_
  refine am_s_if_eq dc249_14.2.2.1 rfl (fun c1 => ?_) (fun c1 => ?_)
  · refine am_s_aload_n rfl dc249_15.2.2.1 ?_
    refine am_s_dup rfl dc249_15.2.2.2 ?_
    refine am_x_getI (x := I 163 38) dc249_16.1.1 rfl rfl (Or.inl rfl) rfl ?_
    refine am_s_iconst am_cc1 dc249_16.1.2.1 ?_
    refine am_s_iadd dc249_16.1.2.2 ?_
    refine am_s_putI dc249_16.2.1.1 rfl rfl rfl rfl ?_
    refine am_s_iinc (ls' := [some (.ref 163), l1, some (.int x2), some (.int (x3 + 12)), some (.int s0), l5]) am_cc12 rfl rfl dc249_16.2.1.2 ?_
    refine am_s_goto rfl dc249_16.2.2.1 ?_
    exact (vi_t q c1)
  · refine am_s_aload_n rfl dc249_14.2.2.2 ?_
    refine am_s_dup rfl dc249_15.1.1.1 ?_
    refine am_x_getI (x := I 163 37) dc249_15.1.1.2 rfl rfl (Or.inl rfl) rfl ?_
    refine am_s_iconst am_cc1 dc249_15.1.2.1 ?_
    refine am_s_iadd dc249_15.1.2.2 ?_
    refine am_s_putI dc249_15.2.1.1 rfl rfl rfl rfl ?_
    refine am_s_goto rfl dc249_15.2.1.2 ?_
    refine am_s_iinc (ls' := [some (.ref 163), l1, some (.int x2), some (.int (x3 + 12)), some (.int s0), l5]) am_cc12 rfl rfl dc249_16.2.1.2 ?_
    refine am_s_goto rfl dc249_16.2.2.1 ?_
    exact (vi_f q c1)
theorem v249_196 {sc : Option (Nat × (Nat → Int32))} {d k n : Nat} {P : am_O → Prop} {I : am_I} {J : am_J} {Pf : am_R} (hp : am_PF Pf) {l1 : Option Value} {x2 : Int32} {x3 : Int32} {l4 : Option Value} {l5 : Option Value} {s0 : Int32} (q : (if s0 = 0 then (am_go sc d 249 (2, [some (.ref 163), l1, some (.int x2), some (.int (x3 + 12)), some (.int s0), l5], [], (am_SH, am_u I 163 38 ((I 163 38) + 1), J, Pf), k, n) P) else (am_go sc d 249 (2, [some (.ref 163), l1, some (.int x2), some (.int (x3 + 12)), some (.int s0), l5], [], (am_SH, am_u I 163 37 ((I 163 37) + 1), J, Pf), k, n) P))) : am_go sc d 249 (196, [some (.ref 163), l1, some (.int x2), some (.int x3), l4, l5], [.int s0], (am_SH, I, J, Pf), k, n) P := by
  refine am_s_istore (ls' := [some (.ref 163), l1, some (.int x2), some (.int x3), some (.int s0), l5]) rfl rfl dc249_14.2.1.1 ?_
  refine am_s_iload rfl dc249_14.2.1.2 ?_
  refine am_s_if_eq dc249_14.2.2.1 rfl (fun c1 => ?_) (fun c1 => ?_)
  · refine am_s_aload_n rfl dc249_15.2.2.1 ?_
    refine am_s_dup rfl dc249_15.2.2.2 ?_
    refine am_x_getI (x := I 163 38) dc249_16.1.1 rfl rfl (Or.inl rfl) rfl ?_
    refine am_s_iconst am_cc1 dc249_16.1.2.1 ?_
    refine am_s_iadd dc249_16.1.2.2 ?_
    refine am_s_putI dc249_16.2.1.1 rfl rfl rfl rfl ?_
    refine am_s_iinc (ls' := [some (.ref 163), l1, some (.int x2), some (.int (x3 + 12)), some (.int s0), l5]) am_cc12 rfl rfl dc249_16.2.1.2 ?_
    refine am_s_goto rfl dc249_16.2.2.1 ?_
    exact (vi_t q c1)
  · refine am_s_aload_n rfl dc249_14.2.2.2 ?_
    refine am_s_dup rfl dc249_15.1.1.1 ?_
    refine am_x_getI (x := I 163 37) dc249_15.1.1.2 rfl rfl (Or.inl rfl) rfl ?_
    refine am_s_iconst am_cc1 dc249_15.1.2.1 ?_
    refine am_s_iadd dc249_15.1.2.2 ?_
    refine am_s_putI dc249_15.2.1.1 rfl rfl rfl rfl ?_
    refine am_s_goto rfl dc249_15.2.1.2 ?_
    refine am_s_iinc (ls' := [some (.ref 163), l1, some (.int x2), some (.int (x3 + 12)), some (.int s0), l5]) am_cc12 rfl rfl dc249_16.2.1.2 ?_
    refine am_s_goto rfl dc249_16.2.2.1 ?_
    exact (vi_f q c1)
theorem v249_83 {sc : Option (Nat × (Nat → Int32))} {d k n : Nat} {P : am_O → Prop} {I : am_I} {J : am_J} {Pf : am_R} (hp : am_PF Pf) {l1 : Option Value} {x2 : Int32} {x3 : Int32} {x4 : Int32} {x5 : Int32} (q : (am_go sc d 249 (50, [some (.ref 163), l1, some (.int x2), some (.int x3), some (.int x4), some (.int (x5 + 1))], [], (am_SH, I, J, Pf), k, n) P)) : am_go sc d 249 (83, [some (.ref 163), l1, some (.int x2), some (.int x3), some (.int x4), some (.int x5)], [], (am_SH, I, J, Pf), k, n) P := by
  refine am_s_iinc (ls' := [some (.ref 163), l1, some (.int x2), some (.int x3), some (.int x4), some (.int (x5 + 1))]) am_cc1 rfl rfl dc249_6.1.1.1 ?_
  refine am_s_goto rfl dc249_6.1.1.2 ?_
  exact q
-- isTyped ([II[III)Z
theorem v250_0 {sc : Option (Nat × (Nat → Int32))} {d k n : Nat} {P : am_O → Prop} {I : am_I} {J : am_J} {Pf : am_R} (hp : am_PF Pf) {x0 : Nat} {Lx0 : Nat} (hx0 : am_SH[x0]? = some (.inr (0, Lx0))) {x1 : Int32} {x2 : Nat} {Lx2 : Nat} (hx2 : am_SH[x2]? = some (.inr (0, Lx2))) {x3 : Int32} {x4 : Int32} {l5 : Option Value} (q : (am_in 0 Lx0 = true) ∧ (if (I x0 (Int32.toNatClampNeg 0)) < x1 then (P (.inl (some (.int 0)), (am_SH, I, J, Pf), k, n)) else (am_in 0 Lx0 = true) ∧ (if ((I x0 (Int32.toNatClampNeg 0)) + x4) ≤ 24 then (am_in 0 Lx0 = true) ∧ (am_go sc d 250 (25, [some (.ref x0), some (.int x1), some (.ref x2), some (.int x3), some (.int x4), some (.int (I x0 (Int32.toNatClampNeg 0)))], [], (am_SH, I, J, Pf), k, n) P) else (P (.inl (some (.int 0)), (am_SH, I, J, Pf), k, n))))) : am_go sc d 250 (0, [some (.ref x0), some (.int x1), some (.ref x2), some (.int x3), some (.int x4), l5], [], (am_SH, I, J, Pf), k, n) P := by
  refine am_s_iload_n rfl dc250_0.1.1.1 ?_
  refine am_s_aload_n rfl dc250_0.1.1.2 ?_
  refine am_s_iconst am_cc0 dc250_0.1.2.1 ?_
  refine am_x_iaload (x := I x0 (Int32.toNatClampNeg 0)) dc250_0.1.2.2 hx0 (q.1) rfl rfl ?_
  refine am_s_ic_gt dc250_0.2.1.1 rfl (fun c1 => ?_) (fun c1 => ?_)
  · refine am_s_iconst am_cc0 dc250_1.2.1.1 ?_
    exact am_s_zreturn dc250_1.2.1.2 rfl (by decide) ((vi_t q.2 c1))
  · refine am_s_aload_n rfl dc250_0.2.1.2 ?_
    refine am_s_iconst am_cc0 dc250_0.2.2.1 ?_
    refine am_x_iaload (x := I x0 (Int32.toNatClampNeg 0)) dc250_0.2.2.2 hx0 ((vi_f q.2 c1).1) rfl rfl ?_
    refine am_s_iload rfl dc250_1.1.1.1 ?_
    refine am_s_iadd dc250_1.1.1.2 ?_
    refine am_s_bipush am_cb24 dc250_1.1.2.1 ?_
    refine am_s_ic_le dc250_1.1.2.2 rfl (fun c2 => ?_) (fun c2 => ?_)
    · refine am_s_aload_n rfl dc250_1.2.2.1 ?_
      refine am_s_iconst am_cc0 dc250_1.2.2.2 ?_
      refine am_x_iaload (x := I x0 (Int32.toNatClampNeg 0)) dc250_2.1.1.1 hx0 ((vi_t (vi_f q.2 c1).2 c2).1) rfl rfl ?_
      refine am_s_istore (ls' := [some (.ref x0), some (.int x1), some (.ref x2), some (.int x3), some (.int x4), some (.int (I x0 (Int32.toNatClampNeg 0)))]) rfl rfl dc250_2.1.1.2 ?_
      exact (vi_t (vi_f q.2 c1).2 c2).2
    · refine am_s_iconst am_cc0 dc250_1.2.1.1 ?_
      exact am_s_zreturn dc250_1.2.1.2 rfl (by decide) ((vi_f (vi_f q.2 c1).2 c2))
theorem v250_25 {sc : Option (Nat × (Nat → Int32))} {d k n : Nat} {P : am_O → Prop} {I : am_I} {J : am_J} {Pf : am_R} (hp : am_PF Pf) {x0 : Nat} {Lx0 : Nat} (hx0 : am_SH[x0]? = some (.inr (0, Lx0))) {x1 : Int32} {x2 : Nat} {Lx2 : Nat} (hx2 : am_SH[x2]? = some (.inr (0, Lx2))) {x3 : Int32} {x4 : Int32} {x5 : Int32} (q : (if x5 ≤ x1 then (am_go sc d 250 (51, [some (.ref x0), some (.int x1), some (.ref x2), some (.int x3), some (.int x4), some (.int 0)], [], (am_SH, I, J, Pf), k, n) P) else (am_in x5 Lx0 = true) ∧ (am_in (x5 + x4) Lx0 = true) ∧ (am_go sc d 250 (25, [some (.ref x0), some (.int x1), some (.ref x2), some (.int x3), some (.int x4), some (.int (x5 + (-1)))], [], (am_SH, am_u I x0 (Int32.toNatClampNeg (x5 + x4)) (I x0 (Int32.toNatClampNeg x5)), J, Pf), k, n) P))) : am_go sc d 250 (25, [some (.ref x0), some (.int x1), some (.ref x2), some (.int x3), some (.int x4), some (.int x5)], [], (am_SH, I, J, Pf), k, n) P := by
  refine am_s_iload rfl dc250_2.1.2.1 ?_
  refine am_s_iload_n rfl dc250_2.1.2.2 ?_
  refine am_s_ic_le dc250_2.2.1.1 rfl (fun c1 => ?_) (fun c1 => ?_)
  · refine am_s_iconst am_cc0 dc250_3.2.2.2 ?_
    refine am_s_istore (ls' := [some (.ref x0), some (.int x1), some (.ref x2), some (.int x3), some (.int x4), some (.int 0)]) rfl rfl dc250_4.1.1.1 ?_
    exact (vi_t q c1)
  · refine am_s_aload_n rfl dc250_2.2.1.2 ?_
    refine am_s_iload rfl dc250_2.2.2.1 ?_
    refine am_s_iload rfl dc250_2.2.2.2 ?_
    refine am_s_iadd dc250_3.1.1.1 ?_
    refine am_s_aload_n rfl dc250_3.1.1.2 ?_
    refine am_s_iload rfl dc250_3.1.2.1 ?_
    refine am_x_iaload (x := I x0 (Int32.toNatClampNeg x5)) dc250_3.1.2.2 hx0 ((vi_f q c1).1) rfl rfl ?_
    refine am_s_iastore dc250_3.2.1.1 hx0 ((vi_f q c1).2.1) rfl ?_
    refine am_s_iinc (ls' := [some (.ref x0), some (.int x1), some (.ref x2), some (.int x3), some (.int x4), some (.int (x5 + (-1)))]) am_ccm1 rfl rfl dc250_3.2.1.2 ?_
    refine am_s_goto rfl dc250_3.2.2.1 ?_
    exact (vi_f q c1).2.2
theorem v250_51 {sc : Option (Nat × (Nat → Int32))} {d k n : Nat} {P : am_O → Prop} {I : am_I} {J : am_J} {Pf : am_R} (hp : am_PF Pf) {x0 : Nat} {Lx0 : Nat} (hx0 : am_SH[x0]? = some (.inr (0, Lx0))) {x1 : Int32} {x2 : Nat} {Lx2 : Nat} (hx2 : am_SH[x2]? = some (.inr (0, Lx2))) {x3 : Int32} {x4 : Int32} {x5 : Int32} (q : (if x4 ≤ x5 then (am_in 0 Lx0 = true) ∧ (am_in 0 Lx0 = true) ∧ (P (.inl (some (.int 1)), (am_SH, am_u I x0 (Int32.toNatClampNeg 0) ((I x0 (Int32.toNatClampNeg 0)) + x4), J, Pf), k, n)) else (am_in (x3 + x5) Lx2 = true) ∧ (am_in ((1 + x1) + x5) Lx0 = true) ∧ (am_go sc d 250 (51, [some (.ref x0), some (.int x1), some (.ref x2), some (.int x3), some (.int x4), some (.int (x5 + 1))], [], (am_SH, am_u I x0 (Int32.toNatClampNeg ((1 + x1) + x5)) (I x2 (Int32.toNatClampNeg (x3 + x5))), J, Pf), k, n) P))) : am_go sc d 250 (51, [some (.ref x0), some (.int x1), some (.ref x2), some (.int x3), some (.int x4), some (.int x5)], [], (am_SH, I, J, Pf), k, n) P := by
  refine am_s_iload rfl dc250_4.1.1.2 ?_
  refine am_s_iload rfl dc250_4.1.2.1 ?_
  refine am_s_ic_ge dc250_4.1.2.2 rfl (fun c1 => ?_) (fun c1 => ?_)
  · refine am_s_aload_n rfl dc250_6.1.2.1 ?_
    refine am_s_iconst am_cc0 dc250_6.1.2.2 ?_
    refine am_s_dup2 rfl rfl dc250_6.2.1.1 ?_
    refine am_x_iaload (x := I x0 (Int32.toNatClampNeg 0)) dc250_6.2.1.2 hx0 ((vi_t q c1).1) rfl rfl ?_
    refine am_s_iload rfl dc250_6.2.2.1 ?_
    refine am_s_iadd dc250_6.2.2.2 ?_
    refine am_s_iastore dc250_7.1 hx0 ((vi_t q c1).2.1) rfl ?_
    refine am_s_iconst am_cc1 dc250_7.2.1 ?_
    exact am_s_zreturn dc250_7.2.2 rfl (by decide) ((vi_t q c1).2.2)
  · refine am_s_aload_n rfl dc250_4.2.1.1 ?_
    refine am_s_iconst am_cc1 dc250_4.2.1.2 ?_
    refine am_s_iload_n rfl dc250_4.2.2.1 ?_
    refine am_s_iadd dc250_4.2.2.2 ?_
    refine am_s_iload rfl dc250_5.1.1.1 ?_
    refine am_s_iadd dc250_5.1.1.2 ?_
    refine am_s_aload_n rfl dc250_5.1.2.1 ?_
    refine am_s_iload_n rfl dc250_5.1.2.2 ?_
    refine am_s_iload rfl dc250_5.2.1.1 ?_
    refine am_s_iadd dc250_5.2.1.2 ?_
    refine am_x_iaload (x := I x2 (Int32.toNatClampNeg (x3 + x5))) dc250_5.2.2.1 hx2 ((vi_f q c1).1) rfl rfl ?_
    refine am_s_iastore dc250_5.2.2.2 hx0 ((vi_f q c1).2.1) rfl ?_
    refine am_s_iinc (ls' := [some (.ref x0), some (.int x1), some (.ref x2), some (.int x3), some (.int x4), some (.int (x5 + 1))]) am_cc1 rfl rfl dc250_6.1.1.1 ?_
    refine am_s_goto rfl dc250_6.1.1.2 ?_
    exact (vi_f q c1).2.2
-- isCut ([III)Z
theorem v251_0 {sc : Option (Nat × (Nat → Int32))} {d k n : Nat} {P : am_O → Prop} {I : am_I} {J : am_J} {Pf : am_R} (hp : am_PF Pf) {x0 : Nat} {Lx0 : Nat} (hx0 : am_SH[x0]? = some (.inr (0, Lx0))) {x1 : Int32} {x2 : Int32} {l3 : Option Value} (q : (if x2 = 0 then (P (.inl (some (.int 0)), (am_SH, I, J, Pf), k, n)) else (am_in 0 Lx0 = true) ∧ (if (x1 + x2) ≤ (I x0 (Int32.toNatClampNeg 0)) then (am_go sc d 251 (19, [some (.ref x0), some (.int x1), some (.int x2), some (.int (x1 + x2))], [], (am_SH, I, J, Pf), k, n) P) else (P (.inl (some (.int 0)), (am_SH, I, J, Pf), k, n))))) : am_go sc d 251 (0, [some (.ref x0), some (.int x1), some (.int x2), l3], [], (am_SH, I, J, Pf), k, n) P := by
  refine am_s_iload_n rfl dc251_0.1.1.1 ?_
  refine am_s_if_eq dc251_0.1.1.2 rfl (fun c1 => ?_) (fun c1 => ?_)
  · refine am_s_iconst am_cc0 dc251_1.1.1.2 ?_
    exact am_s_zreturn dc251_1.1.2.1 rfl (by decide) ((vi_t q c1))
  · refine am_s_iload_n rfl dc251_0.1.2.1 ?_
    refine am_s_iload_n rfl dc251_0.1.2.2 ?_
    refine am_s_iadd dc251_0.2.1.1 ?_
    refine am_s_aload_n rfl dc251_0.2.1.2 ?_
    refine am_s_iconst am_cc0 dc251_0.2.2.1 ?_
    refine am_x_iaload (x := I x0 (Int32.toNatClampNeg 0)) dc251_0.2.2.2 hx0 ((vi_f q c1).1) rfl rfl ?_
    refine am_s_ic_le dc251_1.1.1.1 rfl (fun c2 => ?_) (fun c2 => ?_)
    · refine am_s_iload_n rfl dc251_1.1.2.2 ?_
      refine am_s_iload_n rfl dc251_1.2.1.1 ?_
      refine am_s_iadd dc251_1.2.1.2 ?_
      refine am_s_istore_n (ls' := [some (.ref x0), some (.int x1), some (.int x2), some (.int (x1 + x2))]) rfl rfl dc251_1.2.2.1 ?_
      exact (vi_t (vi_f q c1).2 c2)
    · refine am_s_iconst am_cc0 dc251_1.1.1.2 ?_
      exact am_s_zreturn dc251_1.1.2.1 rfl (by decide) ((vi_f (vi_f q c1).2 c2))
theorem v251_19 {sc : Option (Nat × (Nat → Int32))} {d k n : Nat} {P : am_O → Prop} {I : am_I} {J : am_J} {Pf : am_R} (hp : am_PF Pf) {x0 : Nat} {Lx0 : Nat} (hx0 : am_SH[x0]? = some (.inr (0, Lx0))) {l1 : Option Value} {x2 : Int32} {x3 : Int32} (q : (am_in 0 Lx0 = true) ∧ (if (I x0 (Int32.toNatClampNeg 0)) ≤ x3 then (am_in 0 Lx0 = true) ∧ (am_in 0 Lx0 = true) ∧ (P (.inl (some (.int 1)), (am_SH, am_u I x0 (Int32.toNatClampNeg 0) ((I x0 (Int32.toNatClampNeg 0)) - x2), J, Pf), k, n)) else (am_in (1 + x3) Lx0 = true) ∧ (am_in ((1 + x3) - x2) Lx0 = true) ∧ (am_go sc d 251 (19, [some (.ref x0), l1, some (.int x2), some (.int (x3 + 1))], [], (am_SH, am_u I x0 (Int32.toNatClampNeg ((1 + x3) - x2)) (I x0 (Int32.toNatClampNeg (1 + x3))), J, Pf), k, n) P))) : am_go sc d 251 (19, [some (.ref x0), l1, some (.int x2), some (.int x3)], [], (am_SH, I, J, Pf), k, n) P := by
  refine am_s_iload_n rfl dc251_1.2.2.2 ?_
  refine am_s_aload_n rfl dc251_2.1.1.1 ?_
  refine am_s_iconst am_cc0 dc251_2.1.1.2 ?_
  refine am_x_iaload (x := I x0 (Int32.toNatClampNeg 0)) dc251_2.1.2.1 hx0 (q.1) rfl rfl ?_
  refine am_s_ic_ge dc251_2.1.2.2 rfl (fun c1 => ?_) (fun c1 => ?_)
  · refine am_s_aload_n rfl dc251_4.1.2.1 ?_
    refine am_s_iconst am_cc0 dc251_4.1.2.2 ?_
    refine am_s_dup2 rfl rfl dc251_4.2.1.1 ?_
    refine am_x_iaload (x := I x0 (Int32.toNatClampNeg 0)) dc251_4.2.1.2 hx0 ((vi_t q.2 c1).1) rfl rfl ?_
    refine am_s_iload_n rfl dc251_4.2.2.1 ?_
    refine am_s_isub dc251_4.2.2.2 ?_
    refine am_s_iastore dc251_5.1 hx0 ((vi_t q.2 c1).2.1) rfl ?_
    refine am_s_iconst am_cc1 dc251_5.2.1 ?_
    exact am_s_zreturn dc251_5.2.2 rfl (by decide) ((vi_t q.2 c1).2.2)
  · refine am_s_aload_n rfl dc251_2.2.1.1 ?_
    refine am_s_iconst am_cc1 dc251_2.2.1.2 ?_
    refine am_s_iload_n rfl dc251_2.2.2.1 ?_
    refine am_s_iadd dc251_2.2.2.2 ?_
    refine am_s_iload_n rfl dc251_3.1.1.1 ?_
    refine am_s_isub dc251_3.1.1.2 ?_
    refine am_s_aload_n rfl dc251_3.1.2.1 ?_
    refine am_s_iconst am_cc1 dc251_3.1.2.2 ?_
    refine am_s_iload_n rfl dc251_3.2.1.1 ?_
    refine am_s_iadd dc251_3.2.1.2 ?_
    refine am_x_iaload (x := I x0 (Int32.toNatClampNeg (1 + x3))) dc251_3.2.2.1 hx0 ((vi_f q.2 c1).1) rfl rfl ?_
    refine am_s_iastore dc251_3.2.2.2 hx0 ((vi_f q.2 c1).2.1) rfl ?_
    refine am_s_iinc (ls' := [some (.ref x0), l1, some (.int x2), some (.int (x3 + 1))]) am_cc1 rfl rfl dc251_4.1.1.1 ?_
    refine am_s_goto rfl dc251_4.1.1.2 ?_
    exact (vi_f q.2 c1).2.2
-- isSwapped ([III)Z
theorem v252_0 {sc : Option (Nat × (Nat → Int32))} {d k n : Nat} {P : am_O → Prop} {I : am_I} {J : am_J} {Pf : am_R} (hp : am_PF Pf) {x0 : Nat} {Lx0 : Nat} (hx0 : am_SH[x0]? = some (.inr (0, Lx0))) {x1 : Int32} {x2 : Int32} {l3 : Option Value} (q : (am_in 0 Lx0 = true) ∧ (if (I x0 (Int32.toNatClampNeg 0)) ≤ x1 then (P (.inl (some (.int 0)), (am_SH, I, J, Pf), k, n)) else (am_in 0 Lx0 = true) ∧ (if (I x0 (Int32.toNatClampNeg 0)) ≤ x2 then (P (.inl (some (.int 0)), (am_SH, I, J, Pf), k, n)) else (am_in (1 + x1) Lx0 = true) ∧ (am_in (1 + x2) Lx0 = true) ∧ (if (I x0 (Int32.toNatClampNeg (1 + x1))) = (I x0 (Int32.toNatClampNeg (1 + x2))) then (P (.inl (some (.int 0)), (am_SH, I, J, Pf), k, n)) else (am_in (1 + x1) Lx0 = true) ∧ (am_in (1 + x2) Lx0 = true) ∧ (am_in (1 + x1) Lx0 = true) ∧ (am_in (1 + x2) Lx0 = true) ∧ (P (.inl (some (.int 1)), (am_SH, am_u (am_u I x0 (Int32.toNatClampNeg (1 + x1)) (I x0 (Int32.toNatClampNeg (1 + x2)))) x0 (Int32.toNatClampNeg (1 + x2)) (I x0 (Int32.toNatClampNeg (1 + x1))), J, Pf), k, n)))))) : am_go sc d 252 (0, [some (.ref x0), some (.int x1), some (.int x2), l3], [], (am_SH, I, J, Pf), k, n) P := by
  refine am_s_iload_n rfl dc252_0.1.1.1 ?_
  refine am_s_aload_n rfl dc252_0.1.1.2 ?_
  refine am_s_iconst am_cc0 dc252_0.1.2.1 ?_
  refine am_x_iaload (x := I x0 (Int32.toNatClampNeg 0)) dc252_0.1.2.2 hx0 (q.1) rfl rfl ?_
  refine am_s_ic_ge dc252_0.2.1.1 rfl (fun c1 => ?_) (fun c1 => ?_)
  · refine am_s_iconst am_cc0 dc252_2.2.1.2 ?_
    exact am_s_zreturn dc252_2.2.2.1 rfl (by decide) ((vi_t q.2 c1))
  · refine am_s_iload_n rfl dc252_0.2.1.2 ?_
    refine am_s_aload_n rfl dc252_0.2.2.1 ?_
    refine am_s_iconst am_cc0 dc252_0.2.2.2 ?_
    refine am_x_iaload (x := I x0 (Int32.toNatClampNeg 0)) dc252_1.1.1.1 hx0 ((vi_f q.2 c1).1) rfl rfl ?_
    refine am_s_ic_ge dc252_1.1.1.2 rfl (fun c2 => ?_) (fun c2 => ?_)
    · refine am_s_iconst am_cc0 dc252_2.2.1.2 ?_
      exact am_s_zreturn dc252_2.2.2.1 rfl (by decide) ((vi_t (vi_f q.2 c1).2 c2))
    · refine am_s_aload_n rfl dc252_1.1.2.1 ?_
      refine am_s_iconst am_cc1 dc252_1.1.2.2 ?_
      refine am_s_iload_n rfl dc252_1.2.1.1 ?_
      refine am_s_iadd dc252_1.2.1.2 ?_
      refine am_x_iaload (x := I x0 (Int32.toNatClampNeg (1 + x1))) dc252_1.2.2.1 hx0 ((vi_f (vi_f q.2 c1).2 c2).1) rfl rfl ?_
      refine am_s_aload_n rfl dc252_1.2.2.2 ?_
      refine am_s_iconst am_cc1 dc252_2.1.1.1 ?_
      refine am_s_iload_n rfl dc252_2.1.1.2 ?_
      refine am_s_iadd dc252_2.1.2.1 ?_
      refine am_x_iaload (x := I x0 (Int32.toNatClampNeg (1 + x2))) dc252_2.1.2.2 hx0 ((vi_f (vi_f q.2 c1).2 c2).2.1) rfl rfl ?_
      refine am_s_ic_ne dc252_2.2.1.1 rfl (fun c3 => ?_) (fun c3 => ?_)
      · refine am_s_aload_n rfl dc252_2.2.2.2 ?_
        refine am_s_iconst am_cc1 dc252_3.1.1.1 ?_
        refine am_s_iload_n rfl dc252_3.1.1.2 ?_
        refine am_s_iadd dc252_3.1.2.1 ?_
        refine am_x_iaload (x := I x0 (Int32.toNatClampNeg (1 + x1))) dc252_3.1.2.2 hx0 ((vi_f (vi_f (vi_f q.2 c1).2 c2).2.2 c3).1) rfl rfl ?_
        refine am_s_istore_n (ls' := [some (.ref x0), some (.int x1), some (.int x2), some (.int (I x0 (Int32.toNatClampNeg (1 + x1))))]) rfl rfl dc252_3.2.1.1 ?_
        refine am_s_aload_n rfl dc252_3.2.1.2 ?_
        refine am_s_iconst am_cc1 dc252_3.2.2.1 ?_
        refine am_s_iload_n rfl dc252_3.2.2.2 ?_
        refine am_s_iadd dc252_4.1.1.1 ?_
        refine am_s_aload_n rfl dc252_4.1.1.2 ?_
        refine am_s_iconst am_cc1 dc252_4.1.2.1 ?_
        refine am_s_iload_n rfl dc252_4.1.2.2 ?_
        refine am_s_iadd dc252_4.2.1.1 ?_
        refine am_x_iaload (x := I x0 (Int32.toNatClampNeg (1 + x2))) dc252_4.2.1.2 hx0 ((vi_f (vi_f (vi_f q.2 c1).2 c2).2.2 c3).2.1) rfl rfl ?_
        refine am_s_iastore dc252_4.2.2.1 hx0 ((vi_f (vi_f (vi_f q.2 c1).2 c2).2.2 c3).2.2.1) rfl ?_
        refine am_s_aload_n rfl dc252_4.2.2.2 ?_
        refine am_s_iconst am_cc1 dc252_5.1.1 ?_
        refine am_s_iload_n rfl dc252_5.1.2.1 ?_
        refine am_s_iadd dc252_5.1.2.2 ?_
        refine am_s_iload_n rfl dc252_5.2.1.1 ?_
        refine am_s_iastore dc252_5.2.1.2 hx0 ((vi_f (vi_f (vi_f q.2 c1).2 c2).2.2 c3).2.2.2.1) rfl ?_
        refine am_s_iconst am_cc1 dc252_5.2.2.1 ?_
        exact am_s_zreturn dc252_5.2.2.2 rfl (by decide) ((vi_f (vi_f (vi_f q.2 c1).2 c2).2.2 c3).2.2.2.2)
      · refine am_s_iconst am_cc0 dc252_2.2.1.2 ?_
        exact am_s_zreturn dc252_2.2.2.1 rfl (by decide) ((vi_t (vi_f (vi_f q.2 c1).2 c2).2.2 (Decidable.not_not.mp c3)))
-- undo ()I
theorem v253_0 {sc : Option (Nat × (Nat → Int32))} {d k n : Nat} {P : am_O → Prop} {I : am_I} {J : am_J} {Pf : am_R} (hp : am_PF Pf) {l1 : Option Value} (q : (if (I 163 34) = 0 then (P (.inl (some (.int (-1))), (am_SH, am_u I 163 0 0, J, Pf), k, n)) else (am_go sc d 253 (26, [some (.ref 163), some (.int 0)], [], (am_SH, am_u (am_u I 163 0 0) 163 34 ((I 163 34) - 1), J, Pf), k, n) P))) : am_go sc d 253 (0, [some (.ref 163), l1], [], (am_SH, I, J, Pf), k, n) P := by
  refine am_s_aload_n rfl dc253_0.1.1.1 ?_
  refine am_s_iconst am_cc0 dc253_0.1.1.2 ?_
  refine am_s_putI dc253_0.1.2.1 rfl rfl rfl rfl ?_
  refine am_s_aload_n rfl dc253_0.1.2.2 ?_
  refine am_x_getI (x := I 163 34) dc253_0.2.1.1 rfl rfl (Or.inl rfl) rfl ?_
  refine am_s_if_ne dc253_0.2.1.2 rfl (fun c1 => ?_) (fun c1 => ?_)
  · refine am_s_aload_n rfl dc253_1.1.1.1 ?_
    refine am_s_dup rfl dc253_1.1.1.2 ?_
    refine am_x_getI (x := I 163 34) dc253_1.1.2.1 rfl rfl (Or.inl rfl) rfl ?_
    refine am_s_iconst am_cc1 dc253_1.1.2.2 ?_
    refine am_s_isub dc253_1.2.1.1 ?_
    refine am_s_putI dc253_1.2.1.2 rfl rfl rfl rfl ?_
    refine am_s_iconst am_cc0 dc253_1.2.2.1 ?_
    refine am_s_istore_n (ls' := [some (.ref 163), some (.int 0)]) rfl rfl dc253_1.2.2.2 ?_
    exact (vi_f q c1)
  · refine am_s_iconst am_ccm1 dc253_0.2.2.1 ?_
    exact am_s_ireturn dc253_0.2.2.2 rfl ((vi_t q (Decidable.not_not.mp c1)))
theorem v253_26 {sc : Option (Nat × (Nat → Int32))} {d k n : Nat} {P : am_O → Prop} {I : am_I} {J : am_J} {Pf : am_R} (hp : am_PF Pf) {x1 : Int32} (q : (if 25 ≤ x1 then (P (.inl (some (.int (I 163 34))), (am_SH, am_u (am_u I 163 46 0) 163 35 0, J, Pf), k, n)) else (am_in ((25 * (I 163 34)) + x1) 400 = true) ∧ (am_in x1 25 = true) ∧ (am_go sc d 253 (26, [some (.ref 163), some (.int (x1 + 1))], [], (am_SH, am_u I 180 (Int32.toNatClampNeg x1) (I 182 (Int32.toNatClampNeg ((25 * (I 163 34)) + x1))), J, Pf), k, n) P))) : am_go sc d 253 (26, [some (.ref 163), some (.int x1)], [], (am_SH, I, J, Pf), k, n) P := by
  refine am_s_iload_n rfl dc253_2.1.1.1 ?_
  refine am_s_bipush am_cb25 dc253_2.1.1.2 ?_
  refine am_s_ic_ge dc253_2.1.2.1 rfl (fun c1 => ?_) (fun c1 => ?_)
  · refine am_s_aload_n rfl dc253_4.1.2.1 ?_
    refine am_s_iconst am_cc0 dc253_4.1.2.2 ?_
    refine am_s_putZ dc253_4.2.1.1 rfl rfl rfl rfl (by decide) ?_
    refine am_s_aload_n rfl dc253_4.2.1.2 ?_
    refine am_s_iconst am_cc0 dc253_4.2.2.1 ?_
    refine am_s_putI dc253_4.2.2.2 rfl rfl rfl rfl ?_
    refine am_s_aload_n rfl dc253_5.1 ?_
    refine am_x_getI (x := I 163 34) dc253_5.2.1 rfl rfl (Or.inl rfl) rfl ?_
    exact am_s_ireturn dc253_5.2.2 rfl ((vi_t q c1))
  · refine am_s_aload_n rfl dc253_2.1.2.2 ?_
    refine am_s_getR (r := 180) dc253_2.2.1.1 rfl rfl rfl (hp _ _ _ rfl) ?_
    refine am_s_iload_n rfl dc253_2.2.1.2 ?_
    refine am_s_aload_n rfl dc253_2.2.2.1 ?_
    refine am_s_getR (r := 182) dc253_2.2.2.2 rfl rfl rfl (hp _ _ _ rfl) ?_
    refine am_s_bipush am_cb25 dc253_3.1.1.1 ?_
    refine am_s_aload_n rfl dc253_3.1.1.2 ?_
    refine am_x_getI (x := I 163 34) dc253_3.1.2.1 rfl rfl (Or.inl rfl) rfl ?_
    refine am_s_imul dc253_3.1.2.2 ?_
    refine am_s_iload_n rfl dc253_3.2.1.1 ?_
    refine am_s_iadd dc253_3.2.1.2 ?_
    refine am_x_iaload (x := I 182 (Int32.toNatClampNeg ((25 * (I 163 34)) + x1))) dc253_3.2.2.1 rfl ((vi_f q c1).1) rfl rfl ?_
    refine am_s_iastore dc253_3.2.2.2 rfl ((vi_f q c1).2.1) rfl ?_
    refine am_s_iinc (ls' := [some (.ref 163), some (.int (x1 + 1))]) am_cc1 rfl rfl dc253_4.1.1.1 ?_
    refine am_s_goto rfl dc253_4.1.1.2 ?_
    exact (vi_f q c1).2.2
-- lengthOf (I)I
theorem v254_0 {sc : Option (Nat × (Nat → Int32))} {d k n : Nat} {P : am_O → Prop} {I : am_I} {J : am_J} {Pf : am_R} (hp : am_PF Pf) {x1 : Int32} (q : (am_in (25 * x1) 125 = true) ∧ (P (.inl (some (.int (I 183 (Int32.toNatClampNeg (25 * x1))))), (am_SH, I, J, Pf), k, n))) : am_go sc d 254 (0, [some (.ref 163), some (.int x1)], [], (am_SH, I, J, Pf), k, n) P := by
  refine am_s_aload_n rfl dc254_0.1.1 ?_
  refine am_s_getR (r := 183) dc254_0.1.2.1 rfl rfl rfl (hp _ _ _ rfl) ?_
  refine am_s_bipush am_cb25 dc254_0.1.2.2 ?_
  refine am_s_iload_n rfl dc254_0.2.1.1 ?_
  refine am_s_imul dc254_0.2.1.2 ?_
  refine am_x_iaload (x := I 183 (Int32.toNatClampNeg (25 * x1))) dc254_0.2.2.1 rfl (q.1) rfl rfl ?_
  exact am_s_ireturn dc254_0.2.2.2 rfl (q.2)
-- signOf (II)I
theorem v255_0 {sc : Option (Nat × (Nat → Int32))} {d k n : Nat} {P : am_O → Prop} {I : am_I} {J : am_J} {Pf : am_R} (hp : am_PF Pf) {x1 : Int32} {x2 : Int32} (q : (am_in (((25 * x1) + 1) + x2) 125 = true) ∧ (P (.inl (some (.int (I 183 (Int32.toNatClampNeg (((25 * x1) + 1) + x2))))), (am_SH, I, J, Pf), k, n))) : am_go sc d 255 (0, [some (.ref 163), some (.int x1), some (.int x2)], [], (am_SH, I, J, Pf), k, n) P := by
  refine am_s_aload_n rfl dc255_0.1.1.1 ?_
  refine am_s_getR (r := 183) dc255_0.1.1.2 rfl rfl rfl (hp _ _ _ rfl) ?_
  refine am_s_bipush am_cb25 dc255_0.1.2.1 ?_
  refine am_s_iload_n rfl dc255_0.1.2.2 ?_
  refine am_s_imul dc255_0.2.1.1 ?_
  refine am_s_iconst am_cc1 dc255_0.2.1.2 ?_
  refine am_s_iadd dc255_0.2.2.1 ?_
  refine am_s_iload_n rfl dc255_0.2.2.2 ?_
  refine am_s_iadd dc255_1.1 ?_
  refine am_x_iaload (x := I 183 (Int32.toNatClampNeg (((25 * x1) + 1) + x2))) dc255_1.2.1 rfl (q.1) rfl rfl ?_
  exact am_s_ireturn dc255_1.2.2 rfl (q.2)
-- pieceOf (IIII)I
theorem v256_0 {sc : Option (Nat × (Nat → Int32))} {d k n : Nat} {P : am_O → Prop} {I : am_I} {J : am_J} {Pf : am_R} (hp : am_PF Pf) {x0 : Int32} {x1 : Int32} {x2 : Int32} {x3 : Int32} (q : (P (.inl (some (.int (((((x0 * 8) + x1) * 625) + (x2 * 25)) + x3))), (am_SH, I, J, Pf), k, n))) : am_go sc d 256 (0, [some (.int x0), some (.int x1), some (.int x2), some (.int x3)], [], (am_SH, I, J, Pf), k, n) P := by
  refine am_s_iload_n rfl dc256_0.1.1.1 ?_
  refine am_s_bipush am_cb8 dc256_0.1.1.2 ?_
  refine am_s_imul dc256_0.1.2.1 ?_
  refine am_s_iload_n rfl dc256_0.1.2.2 ?_
  refine am_s_iadd dc256_0.2.1.1 ?_
  refine am_s_sipush am_cs625 dc256_0.2.1.2 ?_
  refine am_s_imul dc256_0.2.2.1 ?_
  refine am_s_iload_n rfl dc256_0.2.2.2 ?_
  refine am_s_bipush am_cb25 dc256_1.1.1 ?_
  refine am_s_imul dc256_1.1.2.1 ?_
  refine am_s_iadd dc256_1.1.2.2 ?_
  refine am_s_iload_n rfl dc256_1.2.1 ?_
  refine am_s_iadd dc256_1.2.2.1 ?_
  exact am_s_ireturn dc256_1.2.2.2 rfl (q)
-- isOf (IIII)Z
theorem v257_0 {sc : Option (Nat × (Nat → Int32))} {d k n : Nat} {P : am_O → Prop} {I : am_I} {J : am_J} {Pf : am_R} (hp : am_PF Pf) {x1 : Int32} {x2 : Int32} {x3 : Int32} {x4 : Int32} (q : (am_in (((((x1 * 8) + x2) * 625) + (x3 * 25)) + x4) 20000 = true) ∧ (if (I 184 (Int32.toNatClampNeg (((((x1 * 8) + x2) * 625) + (x3 * 25)) + x4))) ≤ 0 then (P (.inl (some (.int 0)), (am_SH, I, J, Pf), k, n)) else (P (.inl (some (.int 1)), (am_SH, I, J, Pf), k, n)))) : am_go sc (d + 1) 257 (0, [some (.ref 163), some (.int x1), some (.int x2), some (.int x3), some (.int x4)], [], (am_SH, I, J, Pf), k, n) P := by
  refine am_s_aload_n rfl dc257_0.1.1.1 ?_
  refine am_s_getR (r := 184) dc257_0.1.1.2 rfl rfl rfl (hp _ _ _ rfl) ?_
  refine am_s_iload_n rfl dc257_0.1.2.1 ?_
  refine am_s_iload_n rfl dc257_0.1.2.2 ?_
  refine am_s_iload_n rfl dc257_0.2.1.1 ?_
  refine am_s_iload rfl dc257_0.2.1.2 ?_
  refine am_s_static dc257_0.2.2.1 rfl rfl rfl (am_mth_of rfl rfl ?_)
  refine am_s_iload_n rfl dc256_0.1.1.1 ?_
  refine am_s_bipush am_cb8 dc256_0.1.1.2 ?_
  refine am_s_imul dc256_0.1.2.1 ?_
  refine am_s_iload_n rfl dc256_0.1.2.2 ?_
  refine am_s_iadd dc256_0.2.1.1 ?_
  refine am_s_sipush am_cs625 dc256_0.2.1.2 ?_
  refine am_s_imul dc256_0.2.2.1 ?_
  refine am_s_iload_n rfl dc256_0.2.2.2 ?_
  refine am_s_bipush am_cb25 dc256_1.1.1 ?_
  refine am_s_imul dc256_1.1.2.1 ?_
  refine am_s_iadd dc256_1.1.2.2 ?_
  refine am_s_iload_n rfl dc256_1.2.1 ?_
  refine am_s_iadd dc256_1.2.2.1 ?_
  refine am_s_ireturn dc256_1.2.2.2 rfl (am_bkI ?_)
  refine am_x_iaload (x := I 184 (Int32.toNatClampNeg (((((x1 * 8) + x2) * 625) + (x3 * 25)) + x4))) dc257_0.2.2.2 rfl (q.1) rfl rfl ?_
  refine am_s_if_le dc257_1.1.1 rfl (fun c1 => ?_) (fun c1 => ?_)
  · refine am_s_iconst am_cc0 dc257_1.2.2.1 ?_
    exact am_s_zreturn dc257_1.2.2.2 rfl (by decide) ((vi_t q.2 c1))
  · refine am_s_iconst am_cc1 dc257_1.1.2 ?_
    refine am_s_goto rfl dc257_1.2.1 ?_
    exact am_s_zreturn dc257_1.2.2.2 rfl (by decide) ((vi_f q.2 c1))
-- runOf (II)I
theorem v258_0 {sc : Option (Nat × (Nat → Int32))} {d k n : Nat} {P : am_O → Prop} {I : am_I} {J : am_J} {Pf : am_R} (hp : am_PF Pf) {x1 : Int32} {x2 : Int32} {l3 : Option Value} (q : (am_go sc d 258 (2, [some (.ref 163), some (.int x1), some (.int x2), some (.int x2)], [], (am_SH, I, J, Pf), k, n) P)) : am_go sc d 258 (0, [some (.ref 163), some (.int x1), some (.int x2), l3], [], (am_SH, I, J, Pf), k, n) P := by
  refine am_s_iload_n rfl dc258_0.1.1.1 ?_
  refine am_s_istore_n (ls' := [some (.ref 163), some (.int x1), some (.int x2), some (.int x2)]) rfl rfl dc258_0.1.1.2 ?_
  exact q
theorem v258_2 {sc : Option (Nat × (Nat → Int32))} {d k n : Nat} {P : am_O → Prop} {I : am_I} {J : am_J} {Pf : am_R} (hp : am_PF Pf) {x1 : Int32} {l2 : Option Value} {x3 : Int32} (hl2 : am_k1 l2 = true) (q : (if (I 167 5) = (-1) then (P (.inl (some (.int x3)), (am_SH, I, J, Pf), k, n)) else (am_in (25 * x1) 125 = true) ∧ (if (I 183 (Int32.toNatClampNeg (25 * x1))) ≤ x3 then (P (.inl (some (.int x3)), (am_SH, I, J, Pf), k, n)) else (am_in (((25 * x1) + 1) + x3) 125 = true) ∧ (am_in ((8 + (3 * (I 167 5))) + (((I 183 (Int32.toNatClampNeg (((25 * x1) + 1) + x3))) - 32) / 32)) 1040 = true) ∧ (if (((I 167 (Int32.toNatClampNeg ((8 + (3 * (I 167 5))) + (((I 183 (Int32.toNatClampNeg (((25 * x1) + 1) + x3))) - 32) / 32)))) >>> ((((I 183 (Int32.toNatClampNeg (((25 * x1) + 1) + x3))) - 32) - ((I 183 (Int32.toNatClampNeg (((25 * x1) + 1) + x3))) - 32) / 32 * 32) &&& 31)) &&& 1) = 1 then (am_go sc (d + 1) 258 (2, [some (.ref 163), some (.int x1), l2, some (.int (x3 + 1))], [], (am_SH, I, J, Pf), k, n) P) else (P (.inl (some (.int x3)), (am_SH, I, J, Pf), k, n)))))) : am_go sc (d + 1) 258 (2, [some (.ref 163), some (.int x1), l2, some (.int x3)], [], (am_SH, I, J, Pf), k, n) P := by
  refine am_s_aload_n rfl dc258_0.1.2.1 ?_
  refine am_s_getR (r := 167) dc258_0.1.2.2 rfl rfl rfl (hp _ _ _ rfl) ?_
  refine am_s_iconst am_cc5 dc258_0.2.1.1 ?_
  refine am_x_iaload (x := I 167 5) dc258_0.2.1.2 rfl (by decide +kernel) am_cN5 rfl ?_
  refine am_s_iconst am_ccm1 dc258_0.2.2.1 ?_
  refine am_s_ic_eq dc258_0.2.2.2 rfl (fun c1 => ?_) (fun c1 => ?_)
  · refine am_s_iload_n rfl dc258_3.2.2.1 ?_
    exact am_s_ireturn dc258_3.2.2.2 rfl ((vi_t q c1))
  · refine am_s_iload_n rfl dc258_1.1.1.1 ?_
    refine am_s_aload_n rfl dc258_1.1.1.2 ?_
    refine am_s_iload_n rfl dc258_1.1.2.1 ?_
    refine am_s_virtual true dc258_1.1.2.2 rfl (by decide) rfl rfl rfl (am_mth_of rfl rfl ?_)
    refine am_s_aload_n rfl dc254_0.1.1 ?_
    refine am_s_getR (r := 183) dc254_0.1.2.1 rfl rfl rfl (hp _ _ _ rfl) ?_
    refine am_s_bipush am_cb25 dc254_0.1.2.2 ?_
    refine am_s_iload_n rfl dc254_0.2.1.1 ?_
    refine am_s_imul dc254_0.2.1.2 ?_
    refine am_x_iaload (x := I 183 (Int32.toNatClampNeg (25 * x1))) dc254_0.2.2.1 rfl ((vi_f q c1).1) rfl rfl ?_
    refine am_s_ireturn dc254_0.2.2.2 rfl (am_bkI ?_)
    refine am_s_ic_ge dc258_1.2.1.1 rfl (fun c2 => ?_) (fun c2 => ?_)
    · refine am_s_iload_n rfl dc258_3.2.2.1 ?_
      exact am_s_ireturn dc258_3.2.2.2 rfl ((vi_t (vi_f q c1).2 c2))
    · refine am_s_aload_n rfl dc258_1.2.1.2 ?_
      refine am_s_aload_n rfl dc258_1.2.2.1 ?_
      refine am_s_getR (r := 167) dc258_1.2.2.2 rfl rfl rfl (hp _ _ _ rfl) ?_
      refine am_s_aload_n rfl dc258_2.1.1.1 ?_
      refine am_s_getR (r := 167) dc258_2.1.1.2 rfl rfl rfl (hp _ _ _ rfl) ?_
      refine am_s_iconst am_cc5 dc258_2.1.2.1 ?_
      refine am_x_iaload (x := I 167 5) dc258_2.1.2.2 rfl (by decide +kernel) am_cN5 rfl ?_
      refine am_s_aload_n rfl dc258_2.2.1.1 ?_
      refine am_s_iload_n rfl dc258_2.2.1.2 ?_
      refine am_s_iload_n rfl dc258_2.2.2.1 ?_
      refine am_s_virtual true dc258_2.2.2.2 rfl (by decide) rfl rfl rfl (am_mth_of rfl rfl ?_)
      refine am_s_aload_n rfl dc255_0.1.1.1 ?_
      refine am_s_getR (r := 183) dc255_0.1.1.2 rfl rfl rfl (hp _ _ _ rfl) ?_
      refine am_s_bipush am_cb25 dc255_0.1.2.1 ?_
      refine am_s_iload_n rfl dc255_0.1.2.2 ?_
      refine am_s_imul dc255_0.2.1.1 ?_
      refine am_s_iconst am_cc1 dc255_0.2.1.2 ?_
      refine am_s_iadd dc255_0.2.2.1 ?_
      refine am_s_iload_n rfl dc255_0.2.2.2 ?_
      refine am_s_iadd dc255_1.1 ?_
      refine am_x_iaload (x := I 183 (Int32.toNatClampNeg (((25 * x1) + 1) + x3))) dc255_1.2.1 rfl ((vi_f (vi_f q c1).2 c2).1) rfl rfl ?_
      refine am_s_ireturn dc255_1.2.2 rfl (am_bkI ?_)
      refine am_s_virtual true dc258_3.1.1 rfl (by decide) rfl rfl rfl (am_mth_of rfl rfl ?_)
      refine am_s_iload_n rfl dc221_0.1.1.1 ?_
      refine am_s_bipush am_cb32 dc221_0.1.1.2 ?_
      refine am_s_isub dc221_0.1.2.1 ?_
      refine am_s_istore (ls' := [some (.ref 163), some (.ref 167), some (.int (I 167 5)), some (.int (I 183 (Int32.toNatClampNeg (((25 * x1) + 1) + x3)))), some (.int ((I 183 (Int32.toNatClampNeg (((25 * x1) + 1) + x3))) - 32))]) rfl rfl dc221_0.1.2.2 ?_
      refine am_s_aload_n rfl dc221_0.2.1.1 ?_
      refine am_s_bipush am_cb8 dc221_0.2.1.2 ?_
      refine am_s_iconst am_cc3 dc221_0.2.2.1 ?_
      refine am_s_iload_n rfl dc221_0.2.2.2 ?_
      refine am_s_imul dc221_1.1.1.1 ?_
      refine am_s_iadd dc221_1.1.1.2 ?_
      refine am_s_iload rfl dc221_1.1.2.1 ?_
      refine am_s_bipush am_cb32 dc221_1.1.2.2 ?_
      refine am_s_idiv (by decide) dc221_1.2.1.1 ?_
      refine am_s_iadd dc221_1.2.1.2 ?_
      refine am_x_iaload (x := I 167 (Int32.toNatClampNeg ((8 + (3 * (I 167 5))) + (((I 183 (Int32.toNatClampNeg (((25 * x1) + 1) + x3))) - 32) / 32)))) dc221_1.2.2.1 rfl ((vi_f (vi_f q c1).2 c2).2.1) rfl rfl ?_
      refine am_s_iload rfl dc221_1.2.2.2 ?_
      refine am_s_bipush am_cb32 dc221_2.1.1.1 ?_
      refine am_s_irem (by decide) dc221_2.1.1.2 ?_
      refine am_s_ishr dc221_2.1.2.1 ?_
      refine am_s_iconst am_cc1 dc221_2.1.2.2 ?_
      refine am_s_iand dc221_2.2.1.1 ?_
      refine am_s_iconst am_cc1 dc221_2.2.1.2 ?_
      refine am_s_ic_ne dc221_2.2.2.1 rfl (fun c3 => ?_) (fun c3 => ?_)
      · refine am_s_iconst am_cc0 dc221_3.2.1 ?_
        refine am_s_zreturn dc221_3.2.2 rfl (by decide) (am_bkI ?_)
        refine am_s_if_eq dc258_3.1.2.1 rfl (fun _ => ?_) (fun z => absurd z (by decide))
        refine am_s_iload_n rfl dc258_3.2.2.1 ?_
        exact am_s_ireturn dc258_3.2.2.2 rfl ((vi_f (vi_f (vi_f q c1).2 c2).2.2 c3))
      · refine am_s_iconst am_cc1 dc221_2.2.2.2 ?_
        refine am_s_goto rfl dc221_3.1 ?_
        refine am_s_zreturn dc221_3.2.2 rfl (by decide) (am_bkI ?_)
        refine am_s_if_eq dc258_3.1.2.1 rfl (fun z => absurd z (by decide)) (fun _ => ?_)
        refine am_s_iinc (ls' := [some (.ref 163), some (.int x1), l2, some (.int (x3 + 1))]) am_cc1 rfl (am_set1_k (am_kill_x (j := 2) rfl hl2) rfl) dc258_3.1.2.2 ?_
        refine am_s_goto rfl dc258_3.2.1 ?_
        exact (vi_t (vi_f (vi_f q c1).2 c2).2.2 (Decidable.not_not.mp c3))
-- unquotes (III)I
theorem v259_0 {sc : Option (Nat × (Nat → Int32))} {d k n : Nat} {P : am_O → Prop} {I : am_I} {J : am_J} {Pf : am_R} (hp : am_PF Pf) {x1 : Int32} {x2 : Int32} {x3 : Int32} {l4 : Option Value} {l5 : Option Value} {l6 : Option Value} {l7 : Option Value} (q : (am_in (25 * x1) 125 = true) ∧ (if (I 183 (Int32.toNatClampNeg (25 * x1))) ≤ x3 then (P (.inl (some (.int (-1))), (am_SH, I, J, Pf), k, n)) else (am_in (((25 * x1) + 1) + x3) 125 = true) ∧ (am_in ((972 + (5 * x2)) + 2) 1040 = true) ∧ (if (I 183 (Int32.toNatClampNeg (((25 * x1) + 1) + x3))) = (I 167 (Int32.toNatClampNeg ((972 + (5 * x2)) + 2))) then (am_go sc (d + 1) 259 (46, [some (.ref 163), some (.int x1), some (.int x2), some (.int x3), some (.int (972 + (5 * x2))), some (.int 0), some (.int (x3 + 1)), l7], [], (am_SH, I, J, Pf), k, n) P) else (P (.inl (some (.int (-1))), (am_SH, I, J, Pf), k, n))))) : am_go sc (d + 1) 259 (0, [some (.ref 163), some (.int x1), some (.int x2), some (.int x3), l4, l5, l6, l7], [], (am_SH, I, J, Pf), k, n) P := by
  refine am_s_sipush am_cs972 dc259_0.1.1.1 ?_
  refine am_s_iconst am_cc5 dc259_0.1.1.2 ?_
  refine am_s_iload_n rfl dc259_0.1.2.1 ?_
  refine am_s_imul dc259_0.1.2.2 ?_
  refine am_s_iadd dc259_0.2.1.1 ?_
  refine am_s_istore (ls' := [some (.ref 163), some (.int x1), some (.int x2), some (.int x3), some (.int (972 + (5 * x2))), l5, l6, l7]) rfl rfl dc259_0.2.1.2 ?_
  refine am_s_iconst am_cc0 dc259_0.2.2.1 ?_
  refine am_s_istore (ls' := [some (.ref 163), some (.int x1), some (.int x2), some (.int x3), some (.int (972 + (5 * x2))), some (.int 0), l6, l7]) rfl rfl dc259_0.2.2.2 ?_
  refine am_s_iload_n rfl dc259_1.1.1.1 ?_
  refine am_s_aload_n rfl dc259_1.1.1.2 ?_
  refine am_s_iload_n rfl dc259_1.1.2.1 ?_
  refine am_s_virtual true dc259_1.1.2.2 rfl (by decide) rfl rfl rfl (am_mth_of rfl rfl ?_)
  refine am_s_aload_n rfl dc254_0.1.1 ?_
  refine am_s_getR (r := 183) dc254_0.1.2.1 rfl rfl rfl (hp _ _ _ rfl) ?_
  refine am_s_bipush am_cb25 dc254_0.1.2.2 ?_
  refine am_s_iload_n rfl dc254_0.2.1.1 ?_
  refine am_s_imul dc254_0.2.1.2 ?_
  refine am_x_iaload (x := I 183 (Int32.toNatClampNeg (25 * x1))) dc254_0.2.2.1 rfl (q.1) rfl rfl ?_
  refine am_s_ireturn dc254_0.2.2.2 rfl (am_bkI ?_)
  refine am_s_ic_ge dc259_1.2.1.1 rfl (fun c1 => ?_) (fun c1 => ?_)
  · refine am_s_iconst am_ccm1 dc259_3.1.1.1 ?_
    exact am_s_ireturn dc259_3.1.1.2 rfl ((vi_t q.2 c1))
  · refine am_s_aload_n rfl dc259_1.2.1.2 ?_
    refine am_s_iload_n rfl dc259_1.2.2.1 ?_
    refine am_s_iload_n rfl dc259_1.2.2.2 ?_
    refine am_s_virtual true dc259_2.1.1.1 rfl (by decide) rfl rfl rfl (am_mth_of rfl rfl ?_)
    refine am_s_aload_n rfl dc255_0.1.1.1 ?_
    refine am_s_getR (r := 183) dc255_0.1.1.2 rfl rfl rfl (hp _ _ _ rfl) ?_
    refine am_s_bipush am_cb25 dc255_0.1.2.1 ?_
    refine am_s_iload_n rfl dc255_0.1.2.2 ?_
    refine am_s_imul dc255_0.2.1.1 ?_
    refine am_s_iconst am_cc1 dc255_0.2.1.2 ?_
    refine am_s_iadd dc255_0.2.2.1 ?_
    refine am_s_iload_n rfl dc255_0.2.2.2 ?_
    refine am_s_iadd dc255_1.1 ?_
    refine am_x_iaload (x := I 183 (Int32.toNatClampNeg (((25 * x1) + 1) + x3))) dc255_1.2.1 rfl ((vi_f q.2 c1).1) rfl rfl ?_
    refine am_s_ireturn dc255_1.2.2 rfl (am_bkI ?_)
    refine am_s_aload_n rfl dc259_2.1.1.2 ?_
    refine am_s_getR (r := 167) dc259_2.1.2.1 rfl rfl rfl (hp _ _ _ rfl) ?_
    refine am_s_iload rfl dc259_2.1.2.2 ?_
    refine am_s_iconst am_cc2 dc259_2.2.1.1 ?_
    refine am_s_iadd dc259_2.2.1.2 ?_
    refine am_x_iaload (x := I 167 (Int32.toNatClampNeg ((972 + (5 * x2)) + 2))) dc259_2.2.2.1 rfl ((vi_f q.2 c1).2.1) rfl rfl ?_
    refine am_s_ic_eq dc259_2.2.2.2 rfl (fun c2 => ?_) (fun c2 => ?_)
    · refine am_s_iload_n rfl dc259_3.1.2.1 ?_
      refine am_s_iconst am_cc1 dc259_3.1.2.2 ?_
      refine am_s_iadd dc259_3.2.1.1 ?_
      refine am_s_istore (ls' := [some (.ref 163), some (.int x1), some (.int x2), some (.int x3), some (.int (972 + (5 * x2))), some (.int 0), some (.int (x3 + 1)), l7]) rfl rfl dc259_3.2.1.2 ?_
      exact (vi_t (vi_f q.2 c1).2.2 c2)
    · refine am_s_iconst am_ccm1 dc259_3.1.1.1 ?_
      exact am_s_ireturn dc259_3.1.1.2 rfl ((vi_f (vi_f q.2 c1).2.2 c2))
theorem v259_46 {sc : Option (Nat × (Nat → Int32))} {d k n : Nat} {P : am_O → Prop} {I : am_I} {J : am_J} {Pf : am_R} (hp : am_PF Pf) {x1 : Int32} {l2 : Option Value} {l3 : Option Value} {x4 : Int32} {x5 : Int32} {x6 : Int32} {l7 : Option Value} (q : (am_in (25 * x1) 125 = true) ∧ (if (I 183 (Int32.toNatClampNeg (25 * x1))) ≤ x6 then (P (.inl (some (.int (-1))), (am_SH, I, J, Pf), k, n)) else (am_in (((25 * x1) + 1) + x6) 125 = true) ∧ (am_in (x4 + 4) 1040 = true) ∧ (if (I 183 (Int32.toNatClampNeg (((25 * x1) + 1) + x6))) = (I 167 (Int32.toNatClampNeg (x4 + 4))) then (am_in (25 * x1) 125 = true) ∧ (if (x6 + 1) = (I 183 (Int32.toNatClampNeg (25 * x1))) then (P (.inl (some (.int (-1))), (am_SH, I, J, Pf), k, n)) else (am_in (((25 * x1) + 1) + (x6 + 1)) 125 = true) ∧ (am_go sc (d + 1) 259 (139, [some (.ref 163), some (.int x1), l2, l3, some (.int x4), some (.int x5), some (.int ((x6 + 1) + 1)), some (.int (I 183 (Int32.toNatClampNeg (((25 * x1) + 1) + (x6 + 1)))))], [], (am_SH, I, J, Pf), k, n) P)) else (am_in (x4 + 3) 1040 = true) ∧ (if (I 183 (Int32.toNatClampNeg (((25 * x1) + 1) + x6))) = (I 167 (Int32.toNatClampNeg (x4 + 3))) then (am_in (25 * (x1 + 1)) 125 = true) ∧ (P (.inl (some (.int (x6 + 1))), (am_SH, am_u I 183 (Int32.toNatClampNeg (25 * (x1 + 1))) x5, J, Pf), k, n)) else (am_go sc (d + 1) 259 (139, [some (.ref 163), some (.int x1), l2, l3, some (.int x4), some (.int x5), some (.int (x6 + 1)), some (.int (I 183 (Int32.toNatClampNeg (((25 * x1) + 1) + x6))))], [], (am_SH, I, J, Pf), k, n) P))))) : am_go sc (d + 1) 259 (46, [some (.ref 163), some (.int x1), l2, l3, some (.int x4), some (.int x5), some (.int x6), l7], [], (am_SH, I, J, Pf), k, n) P := by
  refine am_s_iload rfl dc259_3.2.2.1 ?_
  refine am_s_aload_n rfl dc259_3.2.2.2 ?_
  refine am_s_iload_n rfl dc259_4.1.1.1 ?_
  refine am_s_virtual true dc259_4.1.1.2 rfl (by decide) rfl rfl rfl (am_mth_of rfl rfl ?_)
  refine am_s_aload_n rfl dc254_0.1.1 ?_
  refine am_s_getR (r := 183) dc254_0.1.2.1 rfl rfl rfl (hp _ _ _ rfl) ?_
  refine am_s_bipush am_cb25 dc254_0.1.2.2 ?_
  refine am_s_iload_n rfl dc254_0.2.1.1 ?_
  refine am_s_imul dc254_0.2.1.2 ?_
  refine am_x_iaload (x := I 183 (Int32.toNatClampNeg (25 * x1))) dc254_0.2.2.1 rfl (q.1) rfl rfl ?_
  refine am_s_ireturn dc254_0.2.2.2 rfl (am_bkI ?_)
  refine am_s_ic_ge dc259_4.1.2.1 rfl (fun c1 => ?_) (fun c1 => ?_)
  · refine am_s_iconst am_ccm1 dc259_12.2.1 ?_
    exact am_s_ireturn dc259_12.2.2 rfl ((vi_t q.2 c1))
  · refine am_s_aload_n rfl dc259_4.1.2.2 ?_
    refine am_s_iload_n rfl dc259_4.2.1.1 ?_
    refine am_s_iload rfl dc259_4.2.1.2 ?_
    refine am_s_virtual true dc259_4.2.2.1 rfl (by decide) rfl rfl rfl (am_mth_of rfl rfl ?_)
    refine am_s_aload_n rfl dc255_0.1.1.1 ?_
    refine am_s_getR (r := 183) dc255_0.1.1.2 rfl rfl rfl (hp _ _ _ rfl) ?_
    refine am_s_bipush am_cb25 dc255_0.1.2.1 ?_
    refine am_s_iload_n rfl dc255_0.1.2.2 ?_
    refine am_s_imul dc255_0.2.1.1 ?_
    refine am_s_iconst am_cc1 dc255_0.2.1.2 ?_
    refine am_s_iadd dc255_0.2.2.1 ?_
    refine am_s_iload_n rfl dc255_0.2.2.2 ?_
    refine am_s_iadd dc255_1.1 ?_
    refine am_x_iaload (x := I 183 (Int32.toNatClampNeg (((25 * x1) + 1) + x6))) dc255_1.2.1 rfl ((vi_f q.2 c1).1) rfl rfl ?_
    refine am_s_ireturn dc255_1.2.2 rfl (am_bkI ?_)
    refine am_s_istore (ls' := [some (.ref 163), some (.int x1), l2, l3, some (.int x4), some (.int x5), some (.int x6), some (.int (I 183 (Int32.toNatClampNeg (((25 * x1) + 1) + x6))))]) rfl rfl dc259_4.2.2.2 ?_
    refine am_s_iinc (ls' := [some (.ref 163), some (.int x1), l2, l3, some (.int x4), some (.int x5), some (.int (x6 + 1)), some (.int (I 183 (Int32.toNatClampNeg (((25 * x1) + 1) + x6))))]) am_cc1 rfl rfl dc259_5.1.1.1 ?_
    refine am_s_iload rfl dc259_5.1.1.2 ?_
    refine am_s_aload_n rfl dc259_5.1.2.1 ?_
    refine am_s_getR (r := 167) dc259_5.1.2.2 rfl rfl rfl (hp _ _ _ rfl) ?_
    refine am_s_iload rfl dc259_5.2.1.1 ?_
    refine am_s_iconst am_cc4 dc259_5.2.1.2 ?_
    refine am_s_iadd dc259_5.2.2.1 ?_
    refine am_x_iaload (x := I 167 (Int32.toNatClampNeg (x4 + 4))) dc259_5.2.2.2 rfl ((vi_f q.2 c1).2.1) rfl rfl ?_
    refine am_s_ic_ne dc259_6.1.1.1 rfl (fun c2 => ?_) (fun c2 => ?_)
    · refine am_s_iload rfl dc259_7.2.2.2 ?_
      refine am_s_aload_n rfl dc259_8.1.1.1 ?_
      refine am_s_getR (r := 167) dc259_8.1.1.2 rfl rfl rfl (hp _ _ _ rfl) ?_
      refine am_s_iload rfl dc259_8.1.2.1 ?_
      refine am_s_iconst am_cc3 dc259_8.1.2.2 ?_
      refine am_s_iadd dc259_8.2.1.1 ?_
      refine am_x_iaload (x := I 167 (Int32.toNatClampNeg (x4 + 3))) dc259_8.2.1.2 rfl ((vi_f (vi_f q.2 c1).2.2 c2).1) rfl rfl ?_
      refine am_s_ic_ne dc259_8.2.2.1 rfl (fun c3 => ?_) (fun c3 => ?_)
      · exact (vi_f (vi_f (vi_f q.2 c1).2.2 c2).2 c3)
      · refine am_s_aload_n rfl dc259_8.2.2.2 ?_
        refine am_s_getR (r := 183) dc259_9.1.1.1 rfl rfl rfl (hp _ _ _ rfl) ?_
        refine am_s_bipush am_cb25 dc259_9.1.1.2 ?_
        refine am_s_iload_n rfl dc259_9.1.2.1 ?_
        refine am_s_iconst am_cc1 dc259_9.1.2.2 ?_
        refine am_s_iadd dc259_9.2.1.1 ?_
        refine am_s_imul dc259_9.2.1.2 ?_
        refine am_s_iload rfl dc259_9.2.2.1 ?_
        refine am_s_iastore dc259_9.2.2.2 rfl ((vi_t (vi_f (vi_f q.2 c1).2.2 c2).2 (Decidable.not_not.mp c3)).1) rfl ?_
        refine am_s_iload rfl dc259_10.1.1.1 ?_
        exact am_s_ireturn dc259_10.1.1.2 rfl ((vi_t (vi_f (vi_f q.2 c1).2.2 c2).2 (Decidable.not_not.mp c3)).2)
    · refine am_s_iload rfl dc259_6.1.1.2 ?_
      refine am_s_aload_n rfl dc259_6.1.2.1 ?_
      refine am_s_iload_n rfl dc259_6.1.2.2 ?_
      refine am_s_virtual true dc259_6.2.1.1 rfl (by decide) rfl rfl rfl (am_mth_of rfl rfl ?_)
      refine am_s_aload_n rfl dc254_0.1.1 ?_
      refine am_s_getR (r := 183) dc254_0.1.2.1 rfl rfl rfl (hp _ _ _ rfl) ?_
      refine am_s_bipush am_cb25 dc254_0.1.2.2 ?_
      refine am_s_iload_n rfl dc254_0.2.1.1 ?_
      refine am_s_imul dc254_0.2.1.2 ?_
      refine am_x_iaload (x := I 183 (Int32.toNatClampNeg (25 * x1))) dc254_0.2.2.1 rfl ((vi_t (vi_f q.2 c1).2.2 (Decidable.not_not.mp c2)).1) rfl rfl ?_
      refine am_s_ireturn dc254_0.2.2.2 rfl (am_bkI ?_)
      refine am_s_ic_ne dc259_6.2.1.2 rfl (fun c3 => ?_) (fun c3 => ?_)
      · refine am_s_aload_n rfl dc259_7.1.1.1 ?_
        refine am_s_iload_n rfl dc259_7.1.1.2 ?_
        refine am_s_iload rfl dc259_7.1.2.1 ?_
        refine am_s_virtual true dc259_7.1.2.2 rfl (by decide) rfl rfl rfl (am_mth_of rfl rfl ?_)
        refine am_s_aload_n rfl dc255_0.1.1.1 ?_
        refine am_s_getR (r := 183) dc255_0.1.1.2 rfl rfl rfl (hp _ _ _ rfl) ?_
        refine am_s_bipush am_cb25 dc255_0.1.2.1 ?_
        refine am_s_iload_n rfl dc255_0.1.2.2 ?_
        refine am_s_imul dc255_0.2.1.1 ?_
        refine am_s_iconst am_cc1 dc255_0.2.1.2 ?_
        refine am_s_iadd dc255_0.2.2.1 ?_
        refine am_s_iload_n rfl dc255_0.2.2.2 ?_
        refine am_s_iadd dc255_1.1 ?_
        refine am_x_iaload (x := I 183 (Int32.toNatClampNeg (((25 * x1) + 1) + (x6 + 1)))) dc255_1.2.1 rfl ((vi_f (vi_t (vi_f q.2 c1).2.2 (Decidable.not_not.mp c2)).2 c3).1) rfl rfl ?_
        refine am_s_ireturn dc255_1.2.2 rfl (am_bkI ?_)
        refine am_s_istore (ls' := [some (.ref 163), some (.int x1), l2, l3, some (.int x4), some (.int x5), some (.int (x6 + 1)), some (.int (I 183 (Int32.toNatClampNeg (((25 * x1) + 1) + (x6 + 1)))))]) rfl rfl dc259_7.2.1.1 ?_
        refine am_s_iinc (ls' := [some (.ref 163), some (.int x1), l2, l3, some (.int x4), some (.int x5), some (.int ((x6 + 1) + 1)), some (.int (I 183 (Int32.toNatClampNeg (((25 * x1) + 1) + (x6 + 1)))))]) am_cc1 rfl rfl dc259_7.2.1.2 ?_
        refine am_s_goto rfl dc259_7.2.2.1 ?_
        exact (vi_f (vi_t (vi_f q.2 c1).2.2 (Decidable.not_not.mp c2)).2 c3).2
      · refine am_s_iconst am_ccm1 dc259_6.2.2.1 ?_
        exact am_s_ireturn dc259_6.2.2.2 rfl ((vi_t (vi_t (vi_f q.2 c1).2.2 (Decidable.not_not.mp c2)).2 (Decidable.not_not.mp c3)))
theorem v259_139 {sc : Option (Nat × (Nat → Int32))} {d k n : Nat} {P : am_O → Prop} {I : am_I} {J : am_J} {Pf : am_R} (hp : am_PF Pf) {x1 : Int32} {l2 : Option Value} {l3 : Option Value} {x4 : Int32} {x5 : Int32} {x6 : Int32} {x7 : Int32} (q : (am_in (((25 * (x1 + 1)) + 1) + x5) 125 = true) ∧ (am_go sc d 259 (46, [some (.ref 163), some (.int x1), l2, l3, some (.int x4), some (.int (x5 + 1)), some (.int x6), some (.int x7)], [], (am_SH, am_u I 183 (Int32.toNatClampNeg (((25 * (x1 + 1)) + 1) + x5)) x7, J, Pf), k, n) P)) : am_go sc d 259 (139, [some (.ref 163), some (.int x1), l2, l3, some (.int x4), some (.int x5), some (.int x6), some (.int x7)], [], (am_SH, I, J, Pf), k, n) P := by
  refine am_s_aload_n rfl dc259_10.1.2.1 ?_
  refine am_s_getR (r := 183) dc259_10.1.2.2 rfl rfl rfl (hp _ _ _ rfl) ?_
  refine am_s_bipush am_cb25 dc259_10.2.1.1 ?_
  refine am_s_iload_n rfl dc259_10.2.1.2 ?_
  refine am_s_iconst am_cc1 dc259_10.2.2.1 ?_
  refine am_s_iadd dc259_10.2.2.2 ?_
  refine am_s_imul dc259_11.1.1.1 ?_
  refine am_s_iconst am_cc1 dc259_11.1.1.2 ?_
  refine am_s_iadd dc259_11.1.2.1 ?_
  refine am_s_iload rfl dc259_11.1.2.2 ?_
  refine am_s_iadd dc259_11.2.1.1 ?_
  refine am_s_iload rfl dc259_11.2.1.2 ?_
  refine am_s_iastore dc259_11.2.2.1 rfl (q.1) rfl ?_
  refine am_s_iinc (ls' := [some (.ref 163), some (.int x1), l2, l3, some (.int x4), some (.int (x5 + 1)), some (.int x6), some (.int x7)]) am_cc1 rfl rfl dc259_11.2.2.2 ?_
  refine am_s_goto rfl dc259_12.1 ?_
  exact q.2
-- isEntry (II)Z
theorem v260_0 {sc : Option (Nat × (Nat → Int32))} {d k n : Nat} {P : am_O → Prop} {I : am_I} {J : am_J} {Pf : am_R} (hp : am_PF Pf) {x1 : Int32} {x2 : Int32} {l3 : Option Value} {l4 : Option Value} (q : (am_in (27 * x1) 16200 = true) ∧ (if (I 187 (Int32.toNatClampNeg (27 * x1))) = x2 then (am_go sc d 260 (20, [some (.ref 163), some (.int x1), some (.int x2), some (.int (27 * x1)), some (.int 0)], [], (am_SH, I, J, Pf), k, n) P) else (P (.inl (some (.int 0)), (am_SH, I, J, Pf), k, n)))) : am_go sc d 260 (0, [some (.ref 163), some (.int x1), some (.int x2), l3, l4], [], (am_SH, I, J, Pf), k, n) P := by
  refine am_s_bipush am_cb27 dc260_0.1.1.1 ?_
  refine am_s_iload_n rfl dc260_0.1.1.2 ?_
  refine am_s_imul dc260_0.1.2.1 ?_
  refine am_s_istore_n (ls' := [some (.ref 163), some (.int x1), some (.int x2), some (.int (27 * x1)), l4]) rfl rfl dc260_0.1.2.2 ?_
  refine am_s_aload_n rfl dc260_0.2.1.1 ?_
  refine am_s_getR (r := 187) dc260_0.2.1.2 rfl rfl rfl (hp _ _ _ rfl) ?_
  refine am_s_iload_n rfl dc260_0.2.2.1 ?_
  refine am_x_iaload (x := I 187 (Int32.toNatClampNeg (27 * x1))) dc260_0.2.2.2 rfl (q.1) rfl rfl ?_
  refine am_s_iload_n rfl dc260_1.1.1.1 ?_
  refine am_s_ic_eq dc260_1.1.1.2 rfl (fun c1 => ?_) (fun c1 => ?_)
  · refine am_s_iconst am_cc0 dc260_1.2.1.1 ?_
    refine am_s_istore (ls' := [some (.ref 163), some (.int x1), some (.int x2), some (.int (27 * x1)), some (.int 0)]) rfl rfl dc260_1.2.1.2 ?_
    exact (vi_t q.2 c1)
  · refine am_s_iconst am_cc0 dc260_1.1.2.1 ?_
    exact am_s_zreturn dc260_1.1.2.2 rfl (by decide) ((vi_f q.2 c1))
theorem v260_20 {sc : Option (Nat × (Nat → Int32))} {d k n : Nat} {P : am_O → Prop} {I : am_I} {J : am_J} {Pf : am_R} (hp : am_PF Pf) {l1 : Option Value} {x2 : Int32} {x3 : Int32} {x4 : Int32} (q : (am_in (25 * x2) 125 = true) ∧ (if (I 183 (Int32.toNatClampNeg (25 * x2))) < x4 then (P (.inl (some (.int 1)), (am_SH, I, J, Pf), k, n)) else (am_in ((x3 + 1) + x4) 16200 = true) ∧ (am_in ((25 * x2) + x4) 125 = true) ∧ (if (I 187 (Int32.toNatClampNeg ((x3 + 1) + x4))) = (I 183 (Int32.toNatClampNeg ((25 * x2) + x4))) then (am_go sc (d + 1) 260 (20, [some (.ref 163), l1, some (.int x2), some (.int x3), some (.int (x4 + 1))], [], (am_SH, I, J, Pf), k, n) P) else (P (.inl (some (.int 0)), (am_SH, I, J, Pf), k, n))))) : am_go sc (d + 1) 260 (20, [some (.ref 163), l1, some (.int x2), some (.int x3), some (.int x4)], [], (am_SH, I, J, Pf), k, n) P := by
  refine am_s_iload rfl dc260_1.2.2.1 ?_
  refine am_s_aload_n rfl dc260_1.2.2.2 ?_
  refine am_s_iload_n rfl dc260_2.1.1.1 ?_
  refine am_s_virtual true dc260_2.1.1.2 rfl (by decide) rfl rfl rfl (am_mth_of rfl rfl ?_)
  refine am_s_aload_n rfl dc254_0.1.1 ?_
  refine am_s_getR (r := 183) dc254_0.1.2.1 rfl rfl rfl (hp _ _ _ rfl) ?_
  refine am_s_bipush am_cb25 dc254_0.1.2.2 ?_
  refine am_s_iload_n rfl dc254_0.2.1.1 ?_
  refine am_s_imul dc254_0.2.1.2 ?_
  refine am_x_iaload (x := I 183 (Int32.toNatClampNeg (25 * x2))) dc254_0.2.2.1 rfl (q.1) rfl rfl ?_
  refine am_s_ireturn dc254_0.2.2.2 rfl (am_bkI ?_)
  refine am_s_ic_gt dc260_2.1.2.1 rfl (fun c1 => ?_) (fun c1 => ?_)
  · refine am_s_iconst am_cc1 dc260_5.1 ?_
    exact am_s_zreturn dc260_5.2 rfl (by decide) ((vi_t q.2 c1))
  · refine am_s_aload_n rfl dc260_2.1.2.2 ?_
    refine am_s_getR (r := 187) dc260_2.2.1.1 rfl rfl rfl (hp _ _ _ rfl) ?_
    refine am_s_iload_n rfl dc260_2.2.1.2 ?_
    refine am_s_iconst am_cc1 dc260_2.2.2.1 ?_
    refine am_s_iadd dc260_2.2.2.2 ?_
    refine am_s_iload rfl dc260_3.1.1.1 ?_
    refine am_s_iadd dc260_3.1.1.2 ?_
    refine am_x_iaload (x := I 187 (Int32.toNatClampNeg ((x3 + 1) + x4))) dc260_3.1.2.1 rfl ((vi_f q.2 c1).1) rfl rfl ?_
    refine am_s_aload_n rfl dc260_3.1.2.2 ?_
    refine am_s_getR (r := 183) dc260_3.2.1.1 rfl rfl rfl (hp _ _ _ rfl) ?_
    refine am_s_bipush am_cb25 dc260_3.2.1.2 ?_
    refine am_s_iload_n rfl dc260_3.2.2.1 ?_
    refine am_s_imul dc260_3.2.2.2 ?_
    refine am_s_iload rfl dc260_4.1.1.1 ?_
    refine am_s_iadd dc260_4.1.1.2 ?_
    refine am_x_iaload (x := I 183 (Int32.toNatClampNeg ((25 * x2) + x4))) dc260_4.1.2.1 rfl ((vi_f q.2 c1).2.1) rfl rfl ?_
    refine am_s_ic_eq dc260_4.1.2.2 rfl (fun c2 => ?_) (fun c2 => ?_)
    · refine am_s_iinc (ls' := [some (.ref 163), l1, some (.int x2), some (.int x3), some (.int (x4 + 1))]) am_cc1 rfl rfl dc260_4.2.2.1 ?_
      refine am_s_goto rfl dc260_4.2.2.2 ?_
      exact (vi_t (vi_f q.2 c1).2.2 c2)
    · refine am_s_iconst am_cc0 dc260_4.2.1.1 ?_
      exact am_s_zreturn dc260_4.2.1.2 rfl (by decide) ((vi_f (vi_f q.2 c1).2.2 c2))
-- sortsOf (I)I
theorem v261_0 {sc : Option (Nat × (Nat → Int32))} {d k n : Nat} {P : am_O → Prop} {I : am_I} {J : am_J} {Pf : am_R} (hp : am_PF Pf) {x1 : Int32} {l2 : Option Value} {l3 : Option Value} {l4 : Option Value} (q : (if x1 ≤ 3 then (am_go sc d 261 (9, [some (.ref 163), some (.int x1), some (.int 0), l3, l4], [], (am_SH, I, J, Pf), k, n) P) else (P (.inl (some (.int 0)), (am_SH, I, J, Pf), k, n)))) : am_go sc d 261 (0, [some (.ref 163), some (.int x1), l2, l3, l4], [], (am_SH, I, J, Pf), k, n) P := by
  refine am_s_iload_n rfl dc261_0.1.1.1 ?_
  refine am_s_iconst am_cc3 dc261_0.1.1.2 ?_
  refine am_s_ic_le dc261_0.1.2.1 rfl (fun c1 => ?_) (fun c1 => ?_)
  · refine am_s_iconst am_cc0 dc261_0.2.1.2 ?_
    refine am_s_istore_n (ls' := [some (.ref 163), some (.int x1), some (.int 0), l3, l4]) rfl rfl dc261_0.2.2.1 ?_
    exact (vi_t q c1)
  · refine am_s_iconst am_cc0 dc261_0.1.2.2 ?_
    exact am_s_ireturn dc261_0.2.1.1 rfl ((vi_f q c1))
theorem v261_9 {sc : Option (Nat × (Nat → Int32))} {d k n : Nat} {P : am_O → Prop} {I : am_I} {J : am_J} {Pf : am_R} (hp : am_PF Pf) {x1 : Int32} {x2 : Int32} {l3 : Option Value} {l4 : Option Value} (q : (if (I 163 48) ≤ x2 then (am_mth d 263 [.ref 163, .int x1] (am_SH, I, J, Pf) (am_af sc d 261 49 [some (.ref 163), some (.int x1), some (.int x2), l3, l4] [.int x1, .ref 163] [] (am_SH, I, J, Pf) k n true P)) else (am_mth d 260 [.ref 163, .int x2, .int x1] (am_SH, I, J, Pf) (am_af sc d 261 20 [some (.ref 163), some (.int x1), some (.int x2), l3, l4] [.int x1, .int x2, .ref 163] [] (am_SH, I, J, Pf) k n true P)))) : am_go sc d 261 (9, [some (.ref 163), some (.int x1), some (.int x2), l3, l4], [], (am_SH, I, J, Pf), k, n) P := by
  refine am_s_iload_n rfl dc261_0.2.2.2 ?_
  refine am_s_aload_n rfl dc261_1.1.1.1 ?_
  refine am_x_getI (x := I 163 48) dc261_1.1.1.2 rfl rfl (Or.inl rfl) rfl ?_
  refine am_s_ic_ge dc261_1.1.2.1 rfl (fun c1 => ?_) (fun c1 => ?_)
  · refine am_s_aload_n rfl dc261_3.2.1.2 ?_
    refine am_s_iload_n rfl dc261_3.2.2.1 ?_
    exact am_s_virtual true dc261_3.2.2.2 rfl (by decide) rfl rfl rfl ((vi_t q c1))
  · refine am_s_aload_n rfl dc261_1.1.2.2 ?_
    refine am_s_iload_n rfl dc261_1.2.1.1 ?_
    refine am_s_iload_n rfl dc261_1.2.1.2 ?_
    exact am_s_virtual true dc261_1.2.2.1 rfl (by decide) rfl rfl rfl ((vi_f q c1))
theorem v261_73 {sc : Option (Nat × (Nat → Int32))} {d k n : Nat} {P : am_O → Prop} {I : am_I} {J : am_J} {Pf : am_R} (hp : am_PF Pf) {x1 : Int32} {x2 : Int32} {l3 : Option Value} {l4 : Option Value} (q : (am_in (27 * (I 163 48)) 16200 = true) ∧ (am_go sc d 261 (91, [some (.ref 163), some (.int x1), some (.int x2), some (.int (27 * (I 163 48))), some (.int 0)], [], (am_SH, am_u I 187 (Int32.toNatClampNeg (27 * (I 163 48))) x1, J, Pf), k, n) P)) : am_go sc d 261 (73, [some (.ref 163), some (.int x1), some (.int x2), l3, l4], [], (am_SH, I, J, Pf), k, n) P := by
  refine am_s_bipush am_cb27 dc261_5.1.2.2 ?_
  refine am_s_aload_n rfl dc261_5.2.1.1 ?_
  refine am_x_getI (x := I 163 48) dc261_5.2.1.2 rfl rfl (Or.inl rfl) rfl ?_
  refine am_s_imul dc261_5.2.2.1 ?_
  refine am_s_istore_n (ls' := [some (.ref 163), some (.int x1), some (.int x2), some (.int (27 * (I 163 48))), l4]) rfl rfl dc261_5.2.2.2 ?_
  refine am_s_aload_n rfl dc261_6.1.1.1 ?_
  refine am_s_getR (r := 187) dc261_6.1.1.2 rfl rfl rfl (hp _ _ _ rfl) ?_
  refine am_s_iload_n rfl dc261_6.1.2.1 ?_
  refine am_s_iload_n rfl dc261_6.1.2.2 ?_
  refine am_s_iastore dc261_6.2.1.1 rfl (q.1) rfl ?_
  refine am_s_iconst am_cc0 dc261_6.2.1.2 ?_
  refine am_s_istore (ls' := [some (.ref 163), some (.int x1), some (.int x2), some (.int (27 * (I 163 48))), some (.int 0)]) rfl rfl dc261_6.2.2.1 ?_
  exact q.2
theorem v261_91 {sc : Option (Nat × (Nat → Int32))} {d k n : Nat} {P : am_O → Prop} {I : am_I} {J : am_J} {Pf : am_R} (hp : am_PF Pf) {x1 : Int32} {x2 : Int32} {x3 : Int32} {x4 : Int32} (q : (if 25 ≤ x4 then (am_in ((x3 + 27) - 1) 16200 = true) ∧ (P (.inl (some (.int x2)), (am_SH, am_u (am_u I 187 (Int32.toNatClampNeg ((x3 + 27) - 1)) x2) 163 48 ((I 163 48) + 1), J, Pf), k, n)) else (am_in ((25 * x1) + x4) 125 = true) ∧ (am_in ((x3 + 1) + x4) 16200 = true) ∧ (am_go sc d 261 (91, [some (.ref 163), some (.int x1), some (.int x2), some (.int x3), some (.int (x4 + 1))], [], (am_SH, am_u I 187 (Int32.toNatClampNeg ((x3 + 1) + x4)) (I 183 (Int32.toNatClampNeg ((25 * x1) + x4))), J, Pf), k, n) P))) : am_go sc d 261 (91, [some (.ref 163), some (.int x1), some (.int x2), some (.int x3), some (.int x4)], [], (am_SH, I, J, Pf), k, n) P := by
  refine am_s_iload rfl dc261_6.2.2.2 ?_
  refine am_s_bipush am_cb25 dc261_7.1.1.1 ?_
  refine am_s_ic_ge dc261_7.1.1.2 rfl (fun c1 => ?_) (fun c1 => ?_)
  · refine am_s_aload_n rfl dc261_9.2.1.1 ?_
    refine am_s_getR (r := 187) dc261_9.2.1.2 rfl rfl rfl (hp _ _ _ rfl) ?_
    refine am_s_iload_n rfl dc261_9.2.2.1 ?_
    refine am_s_bipush am_cb27 dc261_9.2.2.2 ?_
    refine am_s_iadd dc261_10.1.1.1 ?_
    refine am_s_iconst am_cc1 dc261_10.1.1.2 ?_
    refine am_s_isub dc261_10.1.2.1 ?_
    refine am_s_iload_n rfl dc261_10.1.2.2 ?_
    refine am_s_iastore dc261_10.2.1.1 rfl ((vi_t q c1).1) rfl ?_
    refine am_s_aload_n rfl dc261_10.2.1.2 ?_
    refine am_s_dup rfl dc261_10.2.2.1 ?_
    refine am_x_getI (x := I 163 48) dc261_10.2.2.2 rfl rfl (Or.inl rfl) rfl ?_
    refine am_s_iconst am_cc1 dc261_11.1.1 ?_
    refine am_s_iadd dc261_11.1.2 ?_
    refine am_s_putI dc261_11.2.1 rfl rfl rfl rfl ?_
    refine am_s_iload_n rfl dc261_11.2.2.1 ?_
    exact am_s_ireturn dc261_11.2.2.2 rfl ((vi_t q c1).2)
  · refine am_s_aload_n rfl dc261_7.1.2.1 ?_
    refine am_s_getR (r := 187) dc261_7.1.2.2 rfl rfl rfl (hp _ _ _ rfl) ?_
    refine am_s_iload_n rfl dc261_7.2.1.1 ?_
    refine am_s_iconst am_cc1 dc261_7.2.1.2 ?_
    refine am_s_iadd dc261_7.2.2.1 ?_
    refine am_s_iload rfl dc261_7.2.2.2 ?_
    refine am_s_iadd dc261_8.1.1.1 ?_
    refine am_s_aload_n rfl dc261_8.1.1.2 ?_
    refine am_s_getR (r := 183) dc261_8.1.2.1 rfl rfl rfl (hp _ _ _ rfl) ?_
    refine am_s_bipush am_cb25 dc261_8.1.2.2 ?_
    refine am_s_iload_n rfl dc261_8.2.1.1 ?_
    refine am_s_imul dc261_8.2.1.2 ?_
    refine am_s_iload rfl dc261_8.2.2.1 ?_
    refine am_s_iadd dc261_8.2.2.2 ?_
    refine am_x_iaload (x := I 183 (Int32.toNatClampNeg ((25 * x1) + x4))) dc261_9.1.1.1 rfl ((vi_f q c1).1) rfl rfl ?_
    refine am_s_iastore dc261_9.1.1.2 rfl ((vi_f q c1).2.1) rfl ?_
    refine am_s_iinc (ls' := [some (.ref 163), some (.int x1), some (.int x2), some (.int x3), some (.int (x4 + 1))]) am_cc1 rfl rfl dc261_9.1.2.1 ?_
    refine am_s_goto rfl dc261_9.1.2.2 ?_
    exact (vi_f q c1).2.2
theorem v261_23 {sc : Option (Nat × (Nat → Int32))} {d k n : Nat} {P : am_O → Prop} {I : am_I} {J : am_J} {Pf : am_R} (hp : am_PF Pf) {x1 : Int32} {x2 : Int32} {l3 : Option Value} {l4 : Option Value} {s0 : Int32} (q : (if s0 = 0 then (am_go sc d 261 (9, [some (.ref 163), some (.int x1), some (.int (x2 + 1)), l3, l4], [], (am_SH, I, J, Pf), k, n) P) else (am_in (((27 * x2) + 27) - 1) 16200 = true) ∧ (P (.inl (some (.int (I 187 (Int32.toNatClampNeg (((27 * x2) + 27) - 1))))), (am_SH, I, J, Pf), k, n)))) : am_go sc d 261 (23, [some (.ref 163), some (.int x1), some (.int x2), l3, l4], [.int s0], (am_SH, I, J, Pf), k, n) P := by
  refine am_s_if_eq dc261_1.2.2.2 rfl (fun c1 => ?_) (fun c1 => ?_)
  · refine am_s_iinc (ls' := [some (.ref 163), some (.int x1), some (.int (x2 + 1)), l3, l4]) am_cc1 rfl rfl dc261_3.1.2.2 ?_
    refine am_s_goto rfl dc261_3.2.1.1 ?_
    exact (vi_t q c1)
  · refine am_s_aload_n rfl dc261_2.1.1.1 ?_
    refine am_s_getR (r := 187) dc261_2.1.1.2 rfl rfl rfl (hp _ _ _ rfl) ?_
    refine am_s_bipush am_cb27 dc261_2.1.2.1 ?_
    refine am_s_iload_n rfl dc261_2.1.2.2 ?_
    refine am_s_imul dc261_2.2.1.1 ?_
    refine am_s_bipush am_cb27 dc261_2.2.1.2 ?_
    refine am_s_iadd dc261_2.2.2.1 ?_
    refine am_s_iconst am_cc1 dc261_2.2.2.2 ?_
    refine am_s_isub dc261_3.1.1.1 ?_
    refine am_x_iaload (x := I 187 (Int32.toNatClampNeg (((27 * x2) + 27) - 1))) dc261_3.1.1.2 rfl ((vi_f q c1).1) rfl rfl ?_
    exact am_s_ireturn dc261_3.1.2.1 rfl ((vi_f q c1).2)
theorem v261_52 {sc : Option (Nat × (Nat → Int32))} {d k n : Nat} {P : am_O → Prop} {I : am_I} {J : am_J} {Pf : am_R} (hp : am_PF Pf) {x1 : Int32} {l2 : Option Value} {l3 : Option Value} {l4 : Option Value} (q : (am_mth d 262 [.ref 163, .int x1] (am_SH, I, J, Pf) (am_af sc d 261 54 [some (.ref 163), some (.int x1), l2, l3, l4] [.int x1, .ref 163] [] (am_SH, I, J, Pf) k n true P))) : am_go sc d 261 (52, [some (.ref 163), some (.int x1), l2, l3, l4], [], (am_SH, I, J, Pf), k, n) P := by
  refine am_s_aload_n rfl dc261_4.1.1.1 ?_
  refine am_s_iload_n rfl dc261_4.1.1.2 ?_
  exact am_s_virtual true dc261_4.1.2.1 rfl (by decide) rfl rfl rfl (q)
theorem v261_57 {sc : Option (Nat × (Nat → Int32))} {d k n : Nat} {P : am_O → Prop} {I : am_I} {J : am_J} {Pf : am_R} (hp : am_PF Pf) {x1 : Int32} {l2 : Option Value} {l3 : Option Value} {l4 : Option Value} {s0 : Int32} (q : (if (I 163 48) = 600 then (am_go sc d 261 (73, [some (.ref 163), some (.int x1), some (.int s0), l3, l4], [], (am_SH, am_u I 163 48 0, J, Pf), k, n) P) else (am_go sc d 261 (73, [some (.ref 163), some (.int x1), some (.int s0), l3, l4], [], (am_SH, I, J, Pf), k, n) P))) : am_go sc d 261 (57, [some (.ref 163), some (.int x1), l2, l3, l4], [.int s0], (am_SH, I, J, Pf), k, n) P := by
  refine am_s_istore_n (ls' := [some (.ref 163), some (.int x1), some (.int s0), l3, l4]) rfl rfl dc261_4.1.2.2 ?_
  refine am_s_aload_n rfl dc261_4.2.1.1 ?_
  refine am_x_getI (x := I 163 48) dc261_4.2.1.2 rfl rfl (Or.inl rfl) rfl ?_
  refine am_s_sipush am_cs600 dc261_4.2.2.1 ?_
  refine am_s_ic_ne dc261_4.2.2.2 rfl (fun c1 => ?_) (fun c1 => ?_)
  · exact (vi_f q c1)
  · refine am_s_aload_n rfl dc261_5.1.1.1 ?_
    refine am_s_iconst am_cc0 dc261_5.1.1.2 ?_
    refine am_s_putI dc261_5.1.2.1 rfl rfl rfl rfl ?_
    exact (vi_t q (Decidable.not_not.mp c1))
-- wholeOf (I)I
theorem v262_0 {sc : Option (Nat × (Nat → Int32))} {d k n : Nat} {P : am_O → Prop} {I : am_I} {J : am_J} {Pf : am_R} (hp : am_PF Pf) {x1 : Int32} {l2 : Option Value} {l3 : Option Value} (q : (am_go sc d 262 (4, [some (.ref 163), some (.int x1), some (.int 0), some (.int 0)], [], (am_SH, I, J, Pf), k, n) P)) : am_go sc d 262 (0, [some (.ref 163), some (.int x1), l2, l3], [], (am_SH, I, J, Pf), k, n) P := by
  refine am_s_iconst am_cc0 dc262_0.1.1.1 ?_
  refine am_s_istore_n (ls' := [some (.ref 163), some (.int x1), some (.int 0), l3]) rfl rfl dc262_0.1.1.2 ?_
  refine am_s_iconst am_cc0 dc262_0.1.2.1 ?_
  refine am_s_istore_n (ls' := [some (.ref 163), some (.int x1), some (.int 0), some (.int 0)]) rfl rfl dc262_0.1.2.2 ?_
  exact q
theorem v262_4 {sc : Option (Nat × (Nat → Int32))} {d k n : Nat} {P : am_O → Prop} {I : am_I} {J : am_J} {Pf : am_R} (hp : am_PF Pf) {x1 : Int32} {x2 : Int32} {x3 : Int32} (q : (if 8 ≤ x3 then (P (.inl (some (.int x2)), (am_SH, I, J, Pf), k, n)) else (am_in (25 * x1) 125 = true) ∧ (am_in (((((x1 * 8) + x3) * 625) + ((0 : Int32) * 25)) + (I 183 (Int32.toNatClampNeg (25 * x1)))) 20000 = true) ∧ (if (I 184 (Int32.toNatClampNeg (((((x1 * 8) + x3) * 625) + ((0 : Int32) * 25)) + (I 183 (Int32.toNatClampNeg (25 * x1)))))) ≤ 0 then (am_go sc (d + 2) 262 (4, [some (.ref 163), some (.int x1), some (.int (x2 ||| 0)), some (.int (x3 + 1))], [], (am_SH, I, J, Pf), k, n) P) else (am_go sc (d + 2) 262 (4, [some (.ref 163), some (.int x1), some (.int (x2 ||| ((1 : Int32) <<< (x3 &&& 31)))), some (.int (x3 + 1))], [], (am_SH, I, J, Pf), k, n) P)))) : am_go sc (d + 2) 262 (4, [some (.ref 163), some (.int x1), some (.int x2), some (.int x3)], [], (am_SH, I, J, Pf), k, n) P := by
  refine am_s_iload_n rfl dc262_0.2.1.1 ?_
  refine am_s_bipush am_cb8 dc262_0.2.1.2 ?_
  refine am_s_ic_ge dc262_0.2.2.1 rfl (fun c1 => ?_) (fun c1 => ?_)
  · refine am_s_iload_n rfl dc262_3.2.1 ?_
    exact am_s_ireturn dc262_3.2.2 rfl ((vi_t q c1))
  · refine am_s_iload_n rfl dc262_0.2.2.2 ?_
    refine am_s_aload_n rfl dc262_1.1.1.1 ?_
    refine am_s_iload_n rfl dc262_1.1.1.2 ?_
    refine am_s_iload_n rfl dc262_1.1.2.1 ?_
    refine am_s_iconst am_cc0 dc262_1.1.2.2 ?_
    refine am_s_aload_n rfl dc262_1.2.1.1 ?_
    refine am_s_iload_n rfl dc262_1.2.1.2 ?_
    refine am_s_virtual true dc262_1.2.2.1 rfl (by decide) rfl rfl rfl (am_mth_of rfl rfl ?_)
    refine am_s_aload_n rfl dc254_0.1.1 ?_
    refine am_s_getR (r := 183) dc254_0.1.2.1 rfl rfl rfl (hp _ _ _ rfl) ?_
    refine am_s_bipush am_cb25 dc254_0.1.2.2 ?_
    refine am_s_iload_n rfl dc254_0.2.1.1 ?_
    refine am_s_imul dc254_0.2.1.2 ?_
    refine am_x_iaload (x := I 183 (Int32.toNatClampNeg (25 * x1))) dc254_0.2.2.1 rfl ((vi_f q c1).1) rfl rfl ?_
    refine am_s_ireturn dc254_0.2.2.2 rfl (am_bkI ?_)
    refine am_s_virtual true dc262_1.2.2.2 rfl (by decide) rfl rfl rfl (am_mth_of rfl rfl ?_)
    refine am_s_aload_n rfl dc257_0.1.1.1 ?_
    refine am_s_getR (r := 184) dc257_0.1.1.2 rfl rfl rfl (hp _ _ _ rfl) ?_
    refine am_s_iload_n rfl dc257_0.1.2.1 ?_
    refine am_s_iload_n rfl dc257_0.1.2.2 ?_
    refine am_s_iload_n rfl dc257_0.2.1.1 ?_
    refine am_s_iload rfl dc257_0.2.1.2 ?_
    refine am_s_static dc257_0.2.2.1 rfl rfl rfl (am_mth_of rfl rfl ?_)
    refine am_s_iload_n rfl dc256_0.1.1.1 ?_
    refine am_s_bipush am_cb8 dc256_0.1.1.2 ?_
    refine am_s_imul dc256_0.1.2.1 ?_
    refine am_s_iload_n rfl dc256_0.1.2.2 ?_
    refine am_s_iadd dc256_0.2.1.1 ?_
    refine am_s_sipush am_cs625 dc256_0.2.1.2 ?_
    refine am_s_imul dc256_0.2.2.1 ?_
    refine am_s_iload_n rfl dc256_0.2.2.2 ?_
    refine am_s_bipush am_cb25 dc256_1.1.1 ?_
    refine am_s_imul dc256_1.1.2.1 ?_
    refine am_s_iadd dc256_1.1.2.2 ?_
    refine am_s_iload_n rfl dc256_1.2.1 ?_
    refine am_s_iadd dc256_1.2.2.1 ?_
    refine am_s_ireturn dc256_1.2.2.2 rfl (am_bkI ?_)
    refine am_x_iaload (x := I 184 (Int32.toNatClampNeg (((((x1 * 8) + x3) * 625) + ((0 : Int32) * 25)) + (I 183 (Int32.toNatClampNeg (25 * x1)))))) dc257_0.2.2.2 rfl ((vi_f q c1).2.1) rfl rfl ?_
    refine am_s_if_le dc257_1.1.1 rfl (fun c2 => ?_) (fun c2 => ?_)
    · refine am_s_iconst am_cc0 dc257_1.2.2.1 ?_
      refine am_s_zreturn dc257_1.2.2.2 rfl (by decide) (am_bkI ?_)
      refine am_s_if_eq dc262_2.1.1.1 rfl (fun _ => ?_) (fun z => absurd z (by decide))
      refine am_s_iconst am_cc0 dc262_2.2.1.2 ?_
      refine am_s_ior dc262_2.2.2.1 ?_
      refine am_s_istore_n (ls' := [some (.ref 163), some (.int x1), some (.int (x2 ||| 0)), some (.int x3)]) rfl rfl dc262_2.2.2.2 ?_
      refine am_s_iinc (ls' := [some (.ref 163), some (.int x1), some (.int (x2 ||| 0)), some (.int (x3 + 1))]) am_cc1 rfl rfl dc262_3.1.1 ?_
      refine am_s_goto rfl dc262_3.1.2 ?_
      exact (vi_t (vi_f q c1).2.2 c2)
    · refine am_s_iconst am_cc1 dc257_1.1.2 ?_
      refine am_s_goto rfl dc257_1.2.1 ?_
      refine am_s_zreturn dc257_1.2.2.2 rfl (by decide) (am_bkI ?_)
      refine am_s_if_eq dc262_2.1.1.1 rfl (fun z => absurd z (by decide)) (fun _ => ?_)
      refine am_s_iconst am_cc1 dc262_2.1.1.2 ?_
      refine am_s_iload_n rfl dc262_2.1.2.1 ?_
      refine am_s_ishl dc262_2.1.2.2 ?_
      refine am_s_goto rfl dc262_2.2.1.1 ?_
      refine am_s_ior dc262_2.2.2.1 ?_
      refine am_s_istore_n (ls' := [some (.ref 163), some (.int x1), some (.int (x2 ||| ((1 : Int32) <<< (x3 &&& 31)))), some (.int x3)]) rfl rfl dc262_2.2.2.2 ?_
      refine am_s_iinc (ls' := [some (.ref 163), some (.int x1), some (.int (x2 ||| ((1 : Int32) <<< (x3 &&& 31)))), some (.int (x3 + 1))]) am_cc1 rfl rfl dc262_3.1.1 ?_
      refine am_s_goto rfl dc262_3.1.2 ?_
      exact (vi_f (vi_f q c1).2.2 c2)
-- solves (I)V
theorem v263_0 {sc : Option (Nat × (Nat → Int32))} {d k n : Nat} {P : am_O → Prop} {I : am_I} {J : am_J} {Pf : am_R} (hp : am_PF Pf) {x1 : Int32} {l2 : Option Value} {l3 : Option Value} {l4 : Option Value} (q : (am_go sc d 263 (2, [some (.ref 163), some (.int x1), some (.int 0), l3, l4], [], (am_SH, I, J, Pf), k, n) P)) : am_go sc d 263 (0, [some (.ref 163), some (.int x1), l2, l3, l4], [], (am_SH, I, J, Pf), k, n) P := by
  refine am_s_iconst am_cc0 dc263_0.1.1.1 ?_
  refine am_s_istore_n (ls' := [some (.ref 163), some (.int x1), some (.int 0), l3, l4]) rfl rfl dc263_0.1.1.2 ?_
  exact q
theorem v263_2 {sc : Option (Nat × (Nat → Int32))} {d k n : Nat} {P : am_O → Prop} {I : am_I} {J : am_J} {Pf : am_R} (hp : am_PF Pf) {x1 : Int32} {x2 : Int32} {l3 : Option Value} {l4 : Option Value} (q : (if (I 167 2) ≤ x2 then (am_go sc d 263 (111, [some (.ref 163), some (.int x1), some (.int 0), l3, l4], [], (am_SH, I, J, Pf), k, n) P) else (am_go sc d 263 (14, [some (.ref 163), some (.int x1), some (.int x2), some (.int 0), l4], [], (am_SH, I, J, Pf), k, n) P))) : am_go sc d 263 (2, [some (.ref 163), some (.int x1), some (.int x2), l3, l4], [], (am_SH, I, J, Pf), k, n) P := by
  refine am_s_iload_n rfl dc263_0.1.2.1 ?_
  refine am_s_aload_n rfl dc263_0.1.2.2 ?_
  refine am_s_getR (r := 167) dc263_0.2.1.1 rfl rfl rfl (hp _ _ _ rfl) ?_
  refine am_s_iconst am_cc2 dc263_0.2.1.2 ?_
  refine am_x_iaload (x := I 167 2) dc263_0.2.2.1 rfl (by decide +kernel) am_cN2 rfl ?_
  refine am_s_ic_ge dc263_0.2.2.2 rfl (fun c1 => ?_) (fun c1 => ?_)
  · refine am_s_iconst am_cc0 dc263_8.2.1.2 ?_
    refine am_s_istore_n (ls' := [some (.ref 163), some (.int x1), some (.int 0), l3, l4]) rfl rfl dc263_8.2.2.1 ?_
    exact (vi_t q c1)
  · refine am_s_iconst am_cc0 dc263_1.1.1.1 ?_
    refine am_s_istore_n (ls' := [some (.ref 163), some (.int x1), some (.int x2), some (.int 0), l4]) rfl rfl dc263_1.1.1.2 ?_
    exact (vi_f q c1)
theorem v263_14 {sc : Option (Nat × (Nat → Int32))} {d k n : Nat} {P : am_O → Prop} {I : am_I} {J : am_J} {Pf : am_R} (hp : am_PF Pf) {x1 : Int32} {x2 : Int32} {x3 : Int32} {l4 : Option Value} (q : (if 24 ≤ x3 then (am_go sc d 263 (2, [some (.ref 163), some (.int x1), some (.int (x2 + 1)), some (.int x3), l4], [], (am_SH, I, J, Pf), k, n) P) else (am_mth d 259 [.ref 163, .int x1, .int x2, .int x3] (am_SH, I, J, Pf) (am_af sc d 263 42 [some (.ref 163), some (.int x1), some (.int x2), some (.int x3), some (.int ((((4 * x1) + x2) * 24) + x3))] [.int x3, .int x2, .int x1, .ref 163, .int ((((4 * x1) + x2) * 24) + x3), .ref 185] [.int ((((4 * x1) + x2) * 24) + x3), .ref 185] (am_SH, I, J, Pf) k n true P)))) : am_go sc d 263 (14, [some (.ref 163), some (.int x1), some (.int x2), some (.int x3), l4], [], (am_SH, I, J, Pf), k, n) P := by
  refine am_s_iload_n rfl dc263_1.1.2.1 ?_
  refine am_s_bipush am_cb24 dc263_1.1.2.2 ?_
  refine am_s_ic_ge dc263_1.2.1.1 rfl (fun c1 => ?_) (fun c1 => ?_)
  · refine am_s_iinc (ls' := [some (.ref 163), some (.int x1), some (.int (x2 + 1)), some (.int x3), l4]) am_cc1 rfl rfl dc263_8.1.2.2 ?_
    refine am_s_goto rfl dc263_8.2.1.1 ?_
    exact (vi_t q c1)
  · refine am_s_iconst am_cc4 dc263_1.2.1.2 ?_
    refine am_s_iload_n rfl dc263_1.2.2.1 ?_
    refine am_s_imul dc263_1.2.2.2 ?_
    refine am_s_iload_n rfl dc263_2.1.1.1 ?_
    refine am_s_iadd dc263_2.1.1.2 ?_
    refine am_s_bipush am_cb24 dc263_2.1.2.1 ?_
    refine am_s_imul dc263_2.1.2.2 ?_
    refine am_s_iload_n rfl dc263_2.2.1.1 ?_
    refine am_s_iadd dc263_2.2.1.2 ?_
    refine am_s_istore (ls' := [some (.ref 163), some (.int x1), some (.int x2), some (.int x3), some (.int ((((4 * x1) + x2) * 24) + x3))]) rfl rfl dc263_2.2.2.1 ?_
    refine am_s_aload_n rfl dc263_2.2.2.2 ?_
    refine am_s_getR (r := 185) dc263_3.1.1.1 rfl rfl rfl (hp _ _ _ rfl) ?_
    refine am_s_iload rfl dc263_3.1.1.2 ?_
    refine am_s_aload_n rfl dc263_3.1.2.1 ?_
    refine am_s_iload_n rfl dc263_3.1.2.2 ?_
    refine am_s_iload_n rfl dc263_3.2.1.1 ?_
    refine am_s_iload_n rfl dc263_3.2.1.2 ?_
    exact am_s_virtual true dc263_3.2.2.1 rfl (by decide) rfl rfl rfl ((vi_f q c1))
theorem v263_111 {sc : Option (Nat × (Nat → Int32))} {d k n : Nat} {P : am_O → Prop} {I : am_I} {J : am_J} {Pf : am_R} (hp : am_PF Pf) {x1 : Int32} {x2 : Int32} {l3 : Option Value} {l4 : Option Value} (q : (if 5000 ≤ x2 then (am_go sc d 263 (139, [some (.ref 163), some (.int x1), some (.int 0), l3, l4], [], (am_SH, I, J, Pf), k, n) P) else (am_in ((x1 * 5000) + x2) 20000 = true) ∧ (am_go sc d 263 (111, [some (.ref 163), some (.int x1), some (.int (x2 + 1)), l3, l4], [], (am_SH, am_u I 184 (Int32.toNatClampNeg ((x1 * 5000) + x2)) 0, J, Pf), k, n) P))) : am_go sc d 263 (111, [some (.ref 163), some (.int x1), some (.int x2), l3, l4], [], (am_SH, I, J, Pf), k, n) P := by
  refine am_s_iload_n rfl dc263_8.2.2.2 ?_
  refine am_s_sipush am_cs5000 dc263_9.1.1.1 ?_
  refine am_s_ic_ge dc263_9.1.1.2 rfl (fun c1 => ?_) (fun c1 => ?_)
  · refine am_s_iconst am_cc0 dc263_10.2.1.2 ?_
    refine am_s_istore_n (ls' := [some (.ref 163), some (.int x1), some (.int 0), l3, l4]) rfl rfl dc263_10.2.2.1 ?_
    exact (vi_t q c1)
  · refine am_s_aload_n rfl dc263_9.1.2.1 ?_
    refine am_s_getR (r := 184) dc263_9.1.2.2 rfl rfl rfl (hp _ _ _ rfl) ?_
    refine am_s_iload_n rfl dc263_9.2.1.1 ?_
    refine am_s_sipush am_cs5000 dc263_9.2.1.2 ?_
    refine am_s_imul dc263_9.2.2.1 ?_
    refine am_s_iload_n rfl dc263_9.2.2.2 ?_
    refine am_s_iadd dc263_10.1.1.1 ?_
    refine am_s_iconst am_cc0 dc263_10.1.1.2 ?_
    refine am_s_iastore dc263_10.1.2.1 rfl ((vi_f q c1).1) rfl ?_
    refine am_s_iinc (ls' := [some (.ref 163), some (.int x1), some (.int (x2 + 1)), l3, l4]) am_cc1 rfl rfl dc263_10.1.2.2 ?_
    refine am_s_goto rfl dc263_10.2.1.1 ?_
    exact (vi_f q c1).2
theorem v263_139 {sc : Option (Nat × (Nat → Int32))} {d k n : Nat} {P : am_O → Prop} {I : am_I} {J : am_J} {Pf : am_R} (hp : am_PF Pf) {x1 : Int32} {x2 : Int32} {l3 : Option Value} {l4 : Option Value} (q : (if 8 ≤ x2 then (P (.inl none, (am_SH, I, J, Pf), k, n)) else (am_go sc d 263 (147, [some (.ref 163), some (.int x1), some (.int x2), some (.int 1), l4], [], (am_SH, I, J, Pf), k, n) P))) : am_go sc d 263 (139, [some (.ref 163), some (.int x1), some (.int x2), l3, l4], [], (am_SH, I, J, Pf), k, n) P := by
  refine am_s_iload_n rfl dc263_10.2.2.2 ?_
  refine am_s_bipush am_cb8 dc263_11.1.1.1 ?_
  refine am_s_ic_ge dc263_11.1.1.2 rfl (fun c1 => ?_) (fun c1 => ?_)
  · exact am_s_return dc263_14.2.2.2 rfl ((vi_t q c1))
  · refine am_s_iconst am_cc1 dc263_11.1.2.1 ?_
    refine am_s_istore_n (ls' := [some (.ref 163), some (.int x1), some (.int x2), some (.int 1), l4]) rfl rfl dc263_11.1.2.2 ?_
    exact (vi_f q c1)
theorem v263_147 {sc : Option (Nat × (Nat → Int32))} {d k n : Nat} {P : am_O → Prop} {I : am_I} {J : am_J} {Pf : am_R} (hp : am_PF Pf) {x1 : Int32} {x2 : Int32} {x3 : Int32} {l4 : Option Value} (q : (if x3 = 0 then (am_go sc d 263 (139, [some (.ref 163), some (.int x1), some (.int (x2 + 1)), some (.int x3), l4], [], (am_SH, I, J, Pf), k, n) P) else (am_go sc d 263 (156, [some (.ref 163), some (.int x1), some (.int x2), some (.int 0), some (.int 0)], [], (am_SH, I, J, Pf), k, n) P))) : am_go sc d 263 (147, [some (.ref 163), some (.int x1), some (.int x2), some (.int x3), l4], [], (am_SH, I, J, Pf), k, n) P := by
  refine am_s_iload_n rfl dc263_11.2.1.1 ?_
  refine am_s_if_eq dc263_11.2.1.2 rfl (fun c1 => ?_) (fun c1 => ?_)
  · refine am_s_iinc (ls' := [some (.ref 163), some (.int x1), some (.int (x2 + 1)), some (.int x3), l4]) am_cc1 rfl rfl dc263_14.2.1.2 ?_
    refine am_s_goto rfl dc263_14.2.2.1 ?_
    exact (vi_t q c1)
  · refine am_s_iconst am_cc0 dc263_11.2.2.1 ?_
    refine am_s_istore_n (ls' := [some (.ref 163), some (.int x1), some (.int x2), some (.int 0), l4]) rfl rfl dc263_11.2.2.2 ?_
    refine am_s_iconst am_cc0 dc263_12.1.1.1 ?_
    refine am_s_istore (ls' := [some (.ref 163), some (.int x1), some (.int x2), some (.int 0), some (.int 0)]) rfl rfl dc263_12.1.1.2 ?_
    exact (vi_f q c1)
theorem v263_156 {sc : Option (Nat × (Nat → Int32))} {d k n : Nat} {P : am_O → Prop} {I : am_I} {J : am_J} {Pf : am_R} (hp : am_PF Pf) {x1 : Int32} {x2 : Int32} {x3 : Int32} {x4 : Int32} (q : (if 8 ≤ x4 then (am_go sc d 263 (147, [some (.ref 163), some (.int x1), some (.int x2), some (.int x3), some (.int x4)], [], (am_SH, I, J, Pf), k, n) P) else (am_in x4 8 = true) ∧ (if (I 171 (Int32.toNatClampNeg x4)) = x2 then (am_mth d 266 [.ref 163, .int x1, .int x4] (am_SH, I, J, Pf) (am_af sc d 263 178 [some (.ref 163), some (.int x1), some (.int x2), some (.int x3), some (.int x4)] [.int x4, .int x1, .ref 163] [] (am_SH, I, J, Pf) k n true P)) else (am_go sc d 263 (156, [some (.ref 163), some (.int x1), some (.int x2), some (.int x3), some (.int (x4 + 1))], [], (am_SH, I, J, Pf), k, n) P)))) : am_go sc d 263 (156, [some (.ref 163), some (.int x1), some (.int x2), some (.int x3), some (.int x4)], [], (am_SH, I, J, Pf), k, n) P := by
  refine am_s_iload rfl dc263_12.1.2.1 ?_
  refine am_s_bipush am_cb8 dc263_12.1.2.2 ?_
  refine am_s_ic_ge dc263_12.2.1.1 rfl (fun c1 => ?_) (fun c1 => ?_)
  · refine am_s_goto rfl dc263_14.2.1.1 ?_
    exact (vi_t q c1)
  · refine am_s_aload_n rfl dc263_12.2.1.2 ?_
    refine am_s_getR (r := 171) dc263_12.2.2.1 rfl rfl rfl (hp _ _ _ rfl) ?_
    refine am_s_iload rfl dc263_12.2.2.2 ?_
    refine am_x_iaload (x := I 171 (Int32.toNatClampNeg x4)) dc263_13.1.1.1 rfl ((vi_f q c1).1) rfl rfl ?_
    refine am_s_iload_n rfl dc263_13.1.1.2 ?_
    refine am_s_ic_ne dc263_13.1.2.1 rfl (fun c2 => ?_) (fun c2 => ?_)
    · refine am_s_iinc (ls' := [some (.ref 163), some (.int x1), some (.int x2), some (.int x3), some (.int (x4 + 1))]) am_cc1 rfl rfl dc263_14.1.2.1 ?_
      refine am_s_goto rfl dc263_14.1.2.2 ?_
      exact (vi_f (vi_f q c1).2 c2)
    · refine am_s_aload_n rfl dc263_13.1.2.2 ?_
      refine am_s_iload_n rfl dc263_13.2.1.1 ?_
      refine am_s_iload rfl dc263_13.2.1.2 ?_
      exact am_s_virtual true dc263_13.2.2.1 rfl (by decide) rfl rfl rfl ((vi_t (vi_f q c1).2 (Decidable.not_not.mp c2)))
theorem v263_45 {sc : Option (Nat × (Nat → Int32))} {d k n : Nat} {P : am_O → Prop} {I : am_I} {J : am_J} {Pf : am_R} (hp : am_PF Pf) {x1 : Int32} {x2 : Int32} {x3 : Int32} {x4 : Int32} {s1 : Int32} {s2 : Int32} (q : (am_in s1 384 = true) ∧ (am_in x4 384 = true) ∧ (if ((am_u I 185 (Int32.toNatClampNeg s1) s2) 185 (Int32.toNatClampNeg x4)) = (-1) then (am_in x4 384 = true) ∧ (am_go sc d 263 (14, [some (.ref 163), some (.int x1), some (.int x2), some (.int (x3 + 1)), some (.int x4)], [], (am_SH, am_u (am_u I 185 (Int32.toNatClampNeg s1) s2) 186 (Int32.toNatClampNeg x4) 0, J, Pf), k, n) P) else (am_mth d 261 [.ref 163, .int (x1 + 1)] (am_SH, am_u I 185 (Int32.toNatClampNeg s1) s2, J, Pf) (am_af sc d 263 67 [some (.ref 163), some (.int x1), some (.int x2), some (.int x3), some (.int x4)] [.int (x1 + 1), .ref 163, .int x4, .ref 186] [.int x4, .ref 186] (am_SH, am_u I 185 (Int32.toNatClampNeg s1) s2, J, Pf) k n true P)))) : am_go sc d 263 (45, [some (.ref 163), some (.int x1), some (.int x2), some (.int x3), some (.int x4)], [.int s2, .int s1, .ref 185], (am_SH, I, J, Pf), k, n) P := by
  refine am_s_iastore dc263_3.2.2.2 rfl (q.1) rfl ?_
  refine am_s_aload_n rfl dc263_4.1.1.1 ?_
  refine am_s_getR (r := 186) dc263_4.1.1.2 rfl rfl rfl (hp _ _ _ rfl) ?_
  refine am_s_iload rfl dc263_4.1.2.1 ?_
  refine am_s_aload_n rfl dc263_4.1.2.2 ?_
  refine am_s_getR (r := 185) dc263_4.2.1.1 rfl rfl rfl (hp _ _ _ rfl) ?_
  refine am_s_iload rfl dc263_4.2.1.2 ?_
  refine am_x_iaload (x := (am_u I 185 (Int32.toNatClampNeg s1) s2) 185 (Int32.toNatClampNeg x4)) dc263_4.2.2.1 rfl (q.2.1) rfl rfl ?_
  refine am_s_iconst am_ccm1 dc263_4.2.2.2 ?_
  refine am_s_ic_eq dc263_5.1.1.1 rfl (fun c1 => ?_) (fun c1 => ?_)
  · refine am_s_iconst am_cc0 dc263_7.2.2.2 ?_
    refine am_s_bastore dc263_8.1.1.1 rfl ((vi_t q.2.2 c1).1) (by decide) rfl ?_
    refine am_s_iinc (ls' := [some (.ref 163), some (.int x1), some (.int x2), some (.int (x3 + 1)), some (.int x4)]) am_cc1 rfl rfl dc263_8.1.1.2 ?_
    refine am_s_goto rfl dc263_8.1.2.1 ?_
    exact (vi_t q.2.2 c1).2
  · refine am_s_aload_n rfl dc263_5.1.1.2 ?_
    refine am_s_iload_n rfl dc263_5.1.2.1 ?_
    refine am_s_iconst am_cc1 dc263_5.1.2.2 ?_
    refine am_s_iadd dc263_5.2.1.1 ?_
    exact am_s_virtual true dc263_5.2.1.2 rfl (by decide) rfl rfl rfl ((vi_f q.2.2 c1))
theorem v263_181 {sc : Option (Nat × (Nat → Int32))} {d k n : Nat} {P : am_O → Prop} {I : am_I} {J : am_J} {Pf : am_R} (hp : am_PF Pf) {x1 : Int32} {x2 : Int32} {x3 : Int32} {x4 : Int32} {s0 : Int32} (q : (if s0 = 0 then (am_go sc d 263 (156, [some (.ref 163), some (.int x1), some (.int x2), some (.int x3), some (.int (x4 + 1))], [], (am_SH, I, J, Pf), k, n) P) else (am_go sc d 263 (156, [some (.ref 163), some (.int x1), some (.int x2), some (.int 1), some (.int (x4 + 1))], [], (am_SH, I, J, Pf), k, n) P))) : am_go sc d 263 (181, [some (.ref 163), some (.int x1), some (.int x2), some (.int x3), some (.int x4)], [.int s0], (am_SH, I, J, Pf), k, n) P := by
  refine am_s_if_eq dc263_13.2.2.2 rfl (fun c1 => ?_) (fun c1 => ?_)
  · refine am_s_iinc (ls' := [some (.ref 163), some (.int x1), some (.int x2), some (.int x3), some (.int (x4 + 1))]) am_cc1 rfl rfl dc263_14.1.2.1 ?_
    refine am_s_goto rfl dc263_14.1.2.2 ?_
    exact (vi_t q c1)
  · refine am_s_iconst am_cc1 dc263_14.1.1.1 ?_
    refine am_s_istore_n (ls' := [some (.ref 163), some (.int x1), some (.int x2), some (.int 1), some (.int x4)]) rfl rfl dc263_14.1.1.2 ?_
    refine am_s_iinc (ls' := [some (.ref 163), some (.int x1), some (.int x2), some (.int 1), some (.int (x4 + 1))]) am_cc1 rfl rfl dc263_14.1.2.1 ?_
    refine am_s_goto rfl dc263_14.1.2.2 ?_
    exact (vi_f q c1)
theorem v263_70 {sc : Option (Nat × (Nat → Int32))} {d k n : Nat} {P : am_O → Prop} {I : am_I} {J : am_J} {Pf : am_R} (hp : am_PF Pf) {x1 : Int32} {x2 : Int32} {x3 : Int32} {l4 : Option Value} {s1 : Int32} {s2 : Int32} (q : (am_in ((972 + (5 * x2)) + 1) 1040 = true) ∧ (if ((s2 >>> ((I 167 (Int32.toNatClampNeg ((972 + (5 * x2)) + 1))) &&& 31)) &&& 1) = 1 then (am_in s1 384 = true) ∧ (am_go sc d 263 (14, [some (.ref 163), some (.int x1), some (.int x2), some (.int (x3 + 1)), l4], [], (am_SH, am_u I 186 (Int32.toNatClampNeg s1) 1, J, Pf), k, n) P) else (am_in s1 384 = true) ∧ (am_go sc d 263 (14, [some (.ref 163), some (.int x1), some (.int x2), some (.int (x3 + 1)), l4], [], (am_SH, am_u I 186 (Int32.toNatClampNeg s1) 0, J, Pf), k, n) P))) : am_go sc d 263 (70, [some (.ref 163), some (.int x1), some (.int x2), some (.int x3), l4], [.int s2, .int s1, .ref 186], (am_SH, I, J, Pf), k, n) P := by
  refine am_s_aload_n rfl dc263_5.2.2.1 ?_
  refine am_s_getR (r := 167) dc263_5.2.2.2 rfl rfl rfl (hp _ _ _ rfl) ?_
  refine am_s_sipush am_cs972 dc263_6.1.1.1 ?_
  refine am_s_iconst am_cc5 dc263_6.1.1.2 ?_
  refine am_s_iload_n rfl dc263_6.1.2.1 ?_
  refine am_s_imul dc263_6.1.2.2 ?_
  refine am_s_iadd dc263_6.2.1.1 ?_
  refine am_s_iconst am_cc1 dc263_6.2.1.2 ?_
  refine am_s_iadd dc263_6.2.2.1 ?_
  refine am_x_iaload (x := I 167 (Int32.toNatClampNeg ((972 + (5 * x2)) + 1))) dc263_6.2.2.2 rfl (q.1) rfl rfl ?_
  refine am_s_ishr dc263_7.1.1.1 ?_
  refine am_s_iconst am_cc1 dc263_7.1.1.2 ?_
  refine am_s_iand dc263_7.1.2.1 ?_
  refine am_s_iconst am_cc1 dc263_7.1.2.2 ?_
  refine am_s_ic_ne dc263_7.2.1.1 rfl (fun c1 => ?_) (fun c1 => ?_)
  · refine am_s_iconst am_cc0 dc263_7.2.2.2 ?_
    refine am_s_bastore dc263_8.1.1.1 rfl ((vi_f q.2 c1).1) (by decide) rfl ?_
    refine am_s_iinc (ls' := [some (.ref 163), some (.int x1), some (.int x2), some (.int (x3 + 1)), l4]) am_cc1 rfl rfl dc263_8.1.1.2 ?_
    refine am_s_goto rfl dc263_8.1.2.1 ?_
    exact (vi_f q.2 c1).2
  · refine am_s_iconst am_cc1 dc263_7.2.1.2 ?_
    refine am_s_goto rfl dc263_7.2.2.1 ?_
    refine am_s_bastore dc263_8.1.1.1 rfl ((vi_t q.2 (Decidable.not_not.mp c1)).1) (by decide) rfl ?_
    refine am_s_iinc (ls' := [some (.ref 163), some (.int x1), some (.int x2), some (.int (x3 + 1)), l4]) am_cc1 rfl rfl dc263_8.1.1.2 ?_
    refine am_s_goto rfl dc263_8.1.2.1 ?_
    exact (vi_t q.2 (Decidable.not_not.mp c1)).2
-- mayBe (IIII)Z
theorem v264_0 {sc : Option (Nat × (Nat → Int32))} {d k n : Nat} {P : am_O → Prop} {I : am_I} {J : am_J} {Pf : am_R} (hp : am_PF Pf) {x1 : Int32} {x2 : Int32} {x3 : Int32} {x4 : Int32} {l5 : Option Value} (q : (am_go sc d 264 (3, [some (.ref 163), some (.int x1), some (.int x2), some (.int x3), some (.int x4), some (.int 0)], [], (am_SH, I, J, Pf), k, n) P)) : am_go sc d 264 (0, [some (.ref 163), some (.int x1), some (.int x2), some (.int x3), some (.int x4), l5], [], (am_SH, I, J, Pf), k, n) P := by
  refine am_s_iconst am_cc0 dc264_0.1.1.1 ?_
  refine am_s_istore (ls' := [some (.ref 163), some (.int x1), some (.int x2), some (.int x3), some (.int x4), some (.int 0)]) rfl rfl dc264_0.1.1.2 ?_
  exact q
theorem v264_3 {sc : Option (Nat × (Nat → Int32))} {d k n : Nat} {P : am_O → Prop} {I : am_I} {J : am_J} {Pf : am_R} (hp : am_PF Pf) {x1 : Int32} {x2 : Int32} {x3 : Int32} {x4 : Int32} {x5 : Int32} (q : (if (I 167 3) ≤ x5 then (am_go sc (d + 1) 264 (85, [some (.ref 163), some (.int x1), some (.int x2), some (.int x3), some (.int x4), some (.int 0)], [], (am_SH, I, J, Pf), k, n) P) else (am_in (992 + (2 * x5)) 1040 = true) ∧ (if (I 167 (Int32.toNatClampNeg (992 + (2 * x5)))) = x2 then (am_in (25 * x1) 125 = true) ∧ (if (I 183 (Int32.toNatClampNeg (25 * x1))) ≤ x4 then (am_go sc (d + 1) 264 (3, [some (.ref 163), some (.int x1), some (.int x2), some (.int x3), some (.int x4), some (.int (x5 + 1))], [], (am_SH, I, J, Pf), k, n) P) else (am_in ((992 + (2 * x5)) + 1) 1040 = true) ∧ (am_in (((25 * x1) + 1) + x4) 125 = true) ∧ (am_in ((8 + (3 * (I 167 (Int32.toNatClampNeg ((992 + (2 * x5)) + 1))))) + (((I 183 (Int32.toNatClampNeg (((25 * x1) + 1) + x4))) - 32) / 32)) 1040 = true) ∧ (if (((I 167 (Int32.toNatClampNeg ((8 + (3 * (I 167 (Int32.toNatClampNeg ((992 + (2 * x5)) + 1))))) + (((I 183 (Int32.toNatClampNeg (((25 * x1) + 1) + x4))) - 32) / 32)))) >>> ((((I 183 (Int32.toNatClampNeg (((25 * x1) + 1) + x4))) - 32) - ((I 183 (Int32.toNatClampNeg (((25 * x1) + 1) + x4))) - 32) / 32 * 32) &&& 31)) &&& 1) = 1 then (P (.inl (some (.int 0)), (am_SH, I, J, Pf), k, n)) else (am_go sc (d + 1) 264 (3, [some (.ref 163), some (.int x1), some (.int x2), some (.int x3), some (.int x4), some (.int (x5 + 1))], [], (am_SH, I, J, Pf), k, n) P))) else (am_go sc (d + 1) 264 (3, [some (.ref 163), some (.int x1), some (.int x2), some (.int x3), some (.int x4), some (.int (x5 + 1))], [], (am_SH, I, J, Pf), k, n) P)))) : am_go sc (d + 1) 264 (3, [some (.ref 163), some (.int x1), some (.int x2), some (.int x3), some (.int x4), some (.int x5)], [], (am_SH, I, J, Pf), k, n) P := by
  refine am_s_iload rfl dc264_0.1.2.1 ?_
  refine am_s_aload_n rfl dc264_0.1.2.2 ?_
  refine am_s_getR (r := 167) dc264_0.2.1.1 rfl rfl rfl (hp _ _ _ rfl) ?_
  refine am_s_iconst am_cc3 dc264_0.2.1.2 ?_
  refine am_x_iaload (x := I 167 3) dc264_0.2.2.1 rfl (by decide +kernel) am_cN3 rfl ?_
  refine am_s_ic_ge dc264_0.2.2.2 rfl (fun c1 => ?_) (fun c1 => ?_)
  · refine am_s_iconst am_cc0 dc264_5.2.2.1 ?_
    refine am_s_istore (ls' := [some (.ref 163), some (.int x1), some (.int x2), some (.int x3), some (.int x4), some (.int 0)]) rfl rfl dc264_5.2.2.2 ?_
    exact (vi_t q c1)
  · refine am_s_aload_n rfl dc264_1.1.1.1 ?_
    refine am_s_getR (r := 167) dc264_1.1.1.2 rfl rfl rfl (hp _ _ _ rfl) ?_
    refine am_s_sipush am_cs992 dc264_1.1.2.1 ?_
    refine am_s_iconst am_cc2 dc264_1.1.2.2 ?_
    refine am_s_iload rfl dc264_1.2.1.1 ?_
    refine am_s_imul dc264_1.2.1.2 ?_
    refine am_s_iadd dc264_1.2.2.1 ?_
    refine am_x_iaload (x := I 167 (Int32.toNatClampNeg (992 + (2 * x5)))) dc264_1.2.2.2 rfl ((vi_f q c1).1) rfl rfl ?_
    refine am_s_iload_n rfl dc264_2.1.1.1 ?_
    refine am_s_ic_ne dc264_2.1.1.2 rfl (fun c2 => ?_) (fun c2 => ?_)
    · refine am_s_iinc (ls' := [some (.ref 163), some (.int x1), some (.int x2), some (.int x3), some (.int x4), some (.int (x5 + 1))]) am_cc1 rfl rfl dc264_5.2.1.1 ?_
      refine am_s_goto rfl dc264_5.2.1.2 ?_
      exact (vi_f (vi_f q c1).2 c2)
    · refine am_s_iload rfl dc264_2.1.2.1 ?_
      refine am_s_aload_n rfl dc264_2.1.2.2 ?_
      refine am_s_iload_n rfl dc264_2.2.1.1 ?_
      refine am_s_virtual true dc264_2.2.1.2 rfl (by decide) rfl rfl rfl (am_mth_of rfl rfl ?_)
      refine am_s_aload_n rfl dc254_0.1.1 ?_
      refine am_s_getR (r := 183) dc254_0.1.2.1 rfl rfl rfl (hp _ _ _ rfl) ?_
      refine am_s_bipush am_cb25 dc254_0.1.2.2 ?_
      refine am_s_iload_n rfl dc254_0.2.1.1 ?_
      refine am_s_imul dc254_0.2.1.2 ?_
      refine am_x_iaload (x := I 183 (Int32.toNatClampNeg (25 * x1))) dc254_0.2.2.1 rfl ((vi_t (vi_f q c1).2 (Decidable.not_not.mp c2)).1) rfl rfl ?_
      refine am_s_ireturn dc254_0.2.2.2 rfl (am_bkI ?_)
      refine am_s_ic_ge dc264_2.2.2.1 rfl (fun c3 => ?_) (fun c3 => ?_)
      · refine am_s_iinc (ls' := [some (.ref 163), some (.int x1), some (.int x2), some (.int x3), some (.int x4), some (.int (x5 + 1))]) am_cc1 rfl rfl dc264_5.2.1.1 ?_
        refine am_s_goto rfl dc264_5.2.1.2 ?_
        exact (vi_t (vi_t (vi_f q c1).2 (Decidable.not_not.mp c2)).2 c3)
      · refine am_s_aload_n rfl dc264_2.2.2.2 ?_
        refine am_s_aload_n rfl dc264_3.1.1.1 ?_
        refine am_s_getR (r := 167) dc264_3.1.1.2 rfl rfl rfl (hp _ _ _ rfl) ?_
        refine am_s_aload_n rfl dc264_3.1.2.1 ?_
        refine am_s_getR (r := 167) dc264_3.1.2.2 rfl rfl rfl (hp _ _ _ rfl) ?_
        refine am_s_sipush am_cs992 dc264_3.2.1.1 ?_
        refine am_s_iconst am_cc2 dc264_3.2.1.2 ?_
        refine am_s_iload rfl dc264_3.2.2.1 ?_
        refine am_s_imul dc264_3.2.2.2 ?_
        refine am_s_iadd dc264_4.1.1.1 ?_
        refine am_s_iconst am_cc1 dc264_4.1.1.2 ?_
        refine am_s_iadd dc264_4.1.2.1 ?_
        refine am_x_iaload (x := I 167 (Int32.toNatClampNeg ((992 + (2 * x5)) + 1))) dc264_4.1.2.2 rfl ((vi_f (vi_t (vi_f q c1).2 (Decidable.not_not.mp c2)).2 c3).1) rfl rfl ?_
        refine am_s_aload_n rfl dc264_4.2.1.1 ?_
        refine am_s_iload_n rfl dc264_4.2.1.2 ?_
        refine am_s_iload rfl dc264_4.2.2.1 ?_
        refine am_s_virtual true dc264_4.2.2.2 rfl (by decide) rfl rfl rfl (am_mth_of rfl rfl ?_)
        refine am_s_aload_n rfl dc255_0.1.1.1 ?_
        refine am_s_getR (r := 183) dc255_0.1.1.2 rfl rfl rfl (hp _ _ _ rfl) ?_
        refine am_s_bipush am_cb25 dc255_0.1.2.1 ?_
        refine am_s_iload_n rfl dc255_0.1.2.2 ?_
        refine am_s_imul dc255_0.2.1.1 ?_
        refine am_s_iconst am_cc1 dc255_0.2.1.2 ?_
        refine am_s_iadd dc255_0.2.2.1 ?_
        refine am_s_iload_n rfl dc255_0.2.2.2 ?_
        refine am_s_iadd dc255_1.1 ?_
        refine am_x_iaload (x := I 183 (Int32.toNatClampNeg (((25 * x1) + 1) + x4))) dc255_1.2.1 rfl ((vi_f (vi_t (vi_f q c1).2 (Decidable.not_not.mp c2)).2 c3).2.1) rfl rfl ?_
        refine am_s_ireturn dc255_1.2.2 rfl (am_bkI ?_)
        refine am_s_virtual true dc264_5.1.1.1 rfl (by decide) rfl rfl rfl (am_mth_of rfl rfl ?_)
        refine am_s_iload_n rfl dc221_0.1.1.1 ?_
        refine am_s_bipush am_cb32 dc221_0.1.1.2 ?_
        refine am_s_isub dc221_0.1.2.1 ?_
        refine am_s_istore (ls' := [some (.ref 163), some (.ref 167), some (.int (I 167 (Int32.toNatClampNeg ((992 + (2 * x5)) + 1)))), some (.int (I 183 (Int32.toNatClampNeg (((25 * x1) + 1) + x4)))), some (.int ((I 183 (Int32.toNatClampNeg (((25 * x1) + 1) + x4))) - 32))]) rfl rfl dc221_0.1.2.2 ?_
        refine am_s_aload_n rfl dc221_0.2.1.1 ?_
        refine am_s_bipush am_cb8 dc221_0.2.1.2 ?_
        refine am_s_iconst am_cc3 dc221_0.2.2.1 ?_
        refine am_s_iload_n rfl dc221_0.2.2.2 ?_
        refine am_s_imul dc221_1.1.1.1 ?_
        refine am_s_iadd dc221_1.1.1.2 ?_
        refine am_s_iload rfl dc221_1.1.2.1 ?_
        refine am_s_bipush am_cb32 dc221_1.1.2.2 ?_
        refine am_s_idiv (by decide) dc221_1.2.1.1 ?_
        refine am_s_iadd dc221_1.2.1.2 ?_
        refine am_x_iaload (x := I 167 (Int32.toNatClampNeg ((8 + (3 * (I 167 (Int32.toNatClampNeg ((992 + (2 * x5)) + 1))))) + (((I 183 (Int32.toNatClampNeg (((25 * x1) + 1) + x4))) - 32) / 32)))) dc221_1.2.2.1 rfl ((vi_f (vi_t (vi_f q c1).2 (Decidable.not_not.mp c2)).2 c3).2.2.1) rfl rfl ?_
        refine am_s_iload rfl dc221_1.2.2.2 ?_
        refine am_s_bipush am_cb32 dc221_2.1.1.1 ?_
        refine am_s_irem (by decide) dc221_2.1.1.2 ?_
        refine am_s_ishr dc221_2.1.2.1 ?_
        refine am_s_iconst am_cc1 dc221_2.1.2.2 ?_
        refine am_s_iand dc221_2.2.1.1 ?_
        refine am_s_iconst am_cc1 dc221_2.2.1.2 ?_
        refine am_s_ic_ne dc221_2.2.2.1 rfl (fun c4 => ?_) (fun c4 => ?_)
        · refine am_s_iconst am_cc0 dc221_3.2.1 ?_
          refine am_s_zreturn dc221_3.2.2 rfl (by decide) (am_bkI ?_)
          refine am_s_if_eq dc264_5.1.1.2 rfl (fun _ => ?_) (fun z => absurd z (by decide))
          refine am_s_iinc (ls' := [some (.ref 163), some (.int x1), some (.int x2), some (.int x3), some (.int x4), some (.int (x5 + 1))]) am_cc1 rfl rfl dc264_5.2.1.1 ?_
          refine am_s_goto rfl dc264_5.2.1.2 ?_
          exact (vi_f (vi_f (vi_t (vi_f q c1).2 (Decidable.not_not.mp c2)).2 c3).2.2.2 c4)
        · refine am_s_iconst am_cc1 dc221_2.2.2.2 ?_
          refine am_s_goto rfl dc221_3.1 ?_
          refine am_s_zreturn dc221_3.2.2 rfl (by decide) (am_bkI ?_)
          refine am_s_if_eq dc264_5.1.1.2 rfl (fun z => absurd z (by decide)) (fun _ => ?_)
          refine am_s_iconst am_cc0 dc264_5.1.2.1 ?_
          exact am_s_zreturn dc264_5.1.2.2 rfl (by decide) ((vi_t (vi_f (vi_t (vi_f q c1).2 (Decidable.not_not.mp c2)).2 c3).2.2.2 (Decidable.not_not.mp c4)))
theorem v264_85 {sc : Option (Nat × (Nat → Int32))} {d k n : Nat} {P : am_O → Prop} {I : am_I} {J : am_J} {Pf : am_R} (hp : am_PF Pf) {x1 : Int32} {x2 : Int32} {x3 : Int32} {x4 : Int32} {x5 : Int32} (q : (if (I 167 4) ≤ x5 then (P (.inl (some (.int 1)), (am_SH, I, J, Pf), k, n)) else (am_in (1008 + (4 * x5)) 1040 = true) ∧ (if (I 167 (Int32.toNatClampNeg (1008 + (4 * x5)))) = x2 then (am_in ((1008 + (4 * x5)) + 1) 1040 = true) ∧ (am_in (((((x1 * 8) + (I 167 (Int32.toNatClampNeg ((1008 + (4 * x5)) + 1)))) * 625) + (x3 * 25)) + x4) 20000 = true) ∧ (if (I 184 (Int32.toNatClampNeg (((((x1 * 8) + (I 167 (Int32.toNatClampNeg ((1008 + (4 * x5)) + 1)))) * 625) + (x3 * 25)) + x4))) ≤ 0 then (am_go sc (d + 2) 264 (85, [some (.ref 163), some (.int x1), some (.int x2), some (.int x3), some (.int x4), some (.int (x5 + 1))], [], (am_SH, I, J, Pf), k, n) P) else (P (.inl (some (.int 0)), (am_SH, I, J, Pf), k, n))) else (am_go sc (d + 2) 264 (85, [some (.ref 163), some (.int x1), some (.int x2), some (.int x3), some (.int x4), some (.int (x5 + 1))], [], (am_SH, I, J, Pf), k, n) P)))) : am_go sc (d + 2) 264 (85, [some (.ref 163), some (.int x1), some (.int x2), some (.int x3), some (.int x4), some (.int x5)], [], (am_SH, I, J, Pf), k, n) P := by
  refine am_s_iload rfl dc264_6.1.1.1 ?_
  refine am_s_aload_n rfl dc264_6.1.1.2 ?_
  refine am_s_getR (r := 167) dc264_6.1.2.1 rfl rfl rfl (hp _ _ _ rfl) ?_
  refine am_s_iconst am_cc4 dc264_6.1.2.2 ?_
  refine am_x_iaload (x := I 167 4) dc264_6.2.1.1 rfl (by decide +kernel) am_cN4 rfl ?_
  refine am_s_ic_ge dc264_6.2.1.2 rfl (fun c1 => ?_) (fun c1 => ?_)
  · refine am_s_iconst am_cc1 dc264_10.2.2.1 ?_
    exact am_s_zreturn dc264_10.2.2.2 rfl (by decide) ((vi_t q c1))
  · refine am_s_aload_n rfl dc264_6.2.2.1 ?_
    refine am_s_getR (r := 167) dc264_6.2.2.2 rfl rfl rfl (hp _ _ _ rfl) ?_
    refine am_s_sipush am_cs1008 dc264_7.1.1.1 ?_
    refine am_s_iconst am_cc4 dc264_7.1.1.2 ?_
    refine am_s_iload rfl dc264_7.1.2.1 ?_
    refine am_s_imul dc264_7.1.2.2 ?_
    refine am_s_iadd dc264_7.2.1.1 ?_
    refine am_x_iaload (x := I 167 (Int32.toNatClampNeg (1008 + (4 * x5)))) dc264_7.2.1.2 rfl ((vi_f q c1).1) rfl rfl ?_
    refine am_s_iload_n rfl dc264_7.2.2.1 ?_
    refine am_s_ic_ne dc264_7.2.2.2 rfl (fun c2 => ?_) (fun c2 => ?_)
    · refine am_s_iinc (ls' := [some (.ref 163), some (.int x1), some (.int x2), some (.int x3), some (.int x4), some (.int (x5 + 1))]) am_cc1 rfl rfl dc264_10.1.2.2 ?_
      refine am_s_goto rfl dc264_10.2.1 ?_
      exact (vi_f (vi_f q c1).2 c2)
    · refine am_s_aload_n rfl dc264_8.1.1.1 ?_
      refine am_s_iload_n rfl dc264_8.1.1.2 ?_
      refine am_s_aload_n rfl dc264_8.1.2.1 ?_
      refine am_s_getR (r := 167) dc264_8.1.2.2 rfl rfl rfl (hp _ _ _ rfl) ?_
      refine am_s_sipush am_cs1008 dc264_8.2.1.1 ?_
      refine am_s_iconst am_cc4 dc264_8.2.1.2 ?_
      refine am_s_iload rfl dc264_8.2.2.1 ?_
      refine am_s_imul dc264_8.2.2.2 ?_
      refine am_s_iadd dc264_9.1.1.1 ?_
      refine am_s_iconst am_cc1 dc264_9.1.1.2 ?_
      refine am_s_iadd dc264_9.1.2.1 ?_
      refine am_x_iaload (x := I 167 (Int32.toNatClampNeg ((1008 + (4 * x5)) + 1))) dc264_9.1.2.2 rfl ((vi_t (vi_f q c1).2 (Decidable.not_not.mp c2)).1) rfl rfl ?_
      refine am_s_iload_n rfl dc264_9.2.1.1 ?_
      refine am_s_iload rfl dc264_9.2.1.2 ?_
      refine am_s_virtual true dc264_9.2.2.1 rfl (by decide) rfl rfl rfl (am_mth_of rfl rfl ?_)
      refine am_s_aload_n rfl dc257_0.1.1.1 ?_
      refine am_s_getR (r := 184) dc257_0.1.1.2 rfl rfl rfl (hp _ _ _ rfl) ?_
      refine am_s_iload_n rfl dc257_0.1.2.1 ?_
      refine am_s_iload_n rfl dc257_0.1.2.2 ?_
      refine am_s_iload_n rfl dc257_0.2.1.1 ?_
      refine am_s_iload rfl dc257_0.2.1.2 ?_
      refine am_s_static dc257_0.2.2.1 rfl rfl rfl (am_mth_of rfl rfl ?_)
      refine am_s_iload_n rfl dc256_0.1.1.1 ?_
      refine am_s_bipush am_cb8 dc256_0.1.1.2 ?_
      refine am_s_imul dc256_0.1.2.1 ?_
      refine am_s_iload_n rfl dc256_0.1.2.2 ?_
      refine am_s_iadd dc256_0.2.1.1 ?_
      refine am_s_sipush am_cs625 dc256_0.2.1.2 ?_
      refine am_s_imul dc256_0.2.2.1 ?_
      refine am_s_iload_n rfl dc256_0.2.2.2 ?_
      refine am_s_bipush am_cb25 dc256_1.1.1 ?_
      refine am_s_imul dc256_1.1.2.1 ?_
      refine am_s_iadd dc256_1.1.2.2 ?_
      refine am_s_iload_n rfl dc256_1.2.1 ?_
      refine am_s_iadd dc256_1.2.2.1 ?_
      refine am_s_ireturn dc256_1.2.2.2 rfl (am_bkI ?_)
      refine am_x_iaload (x := I 184 (Int32.toNatClampNeg (((((x1 * 8) + (I 167 (Int32.toNatClampNeg ((1008 + (4 * x5)) + 1)))) * 625) + (x3 * 25)) + x4))) dc257_0.2.2.2 rfl ((vi_t (vi_f q c1).2 (Decidable.not_not.mp c2)).2.1) rfl rfl ?_
      refine am_s_if_le dc257_1.1.1 rfl (fun c3 => ?_) (fun c3 => ?_)
      · refine am_s_iconst am_cc0 dc257_1.2.2.1 ?_
        refine am_s_zreturn dc257_1.2.2.2 rfl (by decide) (am_bkI ?_)
        refine am_s_if_eq dc264_9.2.2.2 rfl (fun _ => ?_) (fun z => absurd z (by decide))
        refine am_s_iinc (ls' := [some (.ref 163), some (.int x1), some (.int x2), some (.int x3), some (.int x4), some (.int (x5 + 1))]) am_cc1 rfl rfl dc264_10.1.2.2 ?_
        refine am_s_goto rfl dc264_10.2.1 ?_
        exact (vi_t (vi_t (vi_f q c1).2 (Decidable.not_not.mp c2)).2.2 c3)
      · refine am_s_iconst am_cc1 dc257_1.1.2 ?_
        refine am_s_goto rfl dc257_1.2.1 ?_
        refine am_s_zreturn dc257_1.2.2.2 rfl (by decide) (am_bkI ?_)
        refine am_s_if_eq dc264_9.2.2.2 rfl (fun z => absurd z (by decide)) (fun _ => ?_)
        refine am_s_iconst am_cc0 dc264_10.1.1 ?_
        exact am_s_zreturn dc264_10.1.2.1 rfl (by decide) ((vi_f (vi_t (vi_f q c1).2 (Decidable.not_not.mp c2)).2.2 c3))
-- isLower (IIIII)Z
theorem v265_0 {sc : Option (Nat × (Nat → Int32))} {d k n : Nat} {P : am_O → Prop} {I : am_I} {J : am_J} {Pf : am_R} (hp : am_PF Pf) {x1 : Int32} {x2 : Int32} {x3 : Int32} {x4 : Int32} {x5 : Int32} {l6 : Option Value} (q : (am_in (((((x1 * 8) + x2) * 625) + (x3 * 25)) + x4) 20000 = true) ∧ (if (I 184 (Int32.toNatClampNeg (((((x1 * 8) + x2) * 625) + (x3 * 25)) + x4))) ≤ 0 then (am_go sc (d + 1) 265 (32, [some (.ref 163), some (.int x1), some (.int x2), some (.int x3), some (.int x4), some (.int x5), some (.int (((((x1 * 8) + x2) * 625) + (x3 * 25)) + x4))], [], (am_SH, I, J, Pf), k, n) P) else (am_in (((((x1 * 8) + x2) * 625) + (x3 * 25)) + x4) 20000 = true) ∧ (if (I 184 (Int32.toNatClampNeg (((((x1 * 8) + x2) * 625) + (x3 * 25)) + x4))) ≤ x5 then (P (.inl (some (.int 0)), (am_SH, I, J, Pf), k, n)) else (am_go sc (d + 1) 265 (32, [some (.ref 163), some (.int x1), some (.int x2), some (.int x3), some (.int x4), some (.int x5), some (.int (((((x1 * 8) + x2) * 625) + (x3 * 25)) + x4))], [], (am_SH, I, J, Pf), k, n) P)))) : am_go sc (d + 1) 265 (0, [some (.ref 163), some (.int x1), some (.int x2), some (.int x3), some (.int x4), some (.int x5), l6], [], (am_SH, I, J, Pf), k, n) P := by
  refine am_s_iload_n rfl dc265_0.1.1.1 ?_
  refine am_s_iload_n rfl dc265_0.1.1.2 ?_
  refine am_s_iload_n rfl dc265_0.1.2.1 ?_
  refine am_s_iload rfl dc265_0.1.2.2 ?_
  refine am_s_static dc265_0.2.1.1 rfl rfl rfl (am_mth_of rfl rfl ?_)
  refine am_s_iload_n rfl dc256_0.1.1.1 ?_
  refine am_s_bipush am_cb8 dc256_0.1.1.2 ?_
  refine am_s_imul dc256_0.1.2.1 ?_
  refine am_s_iload_n rfl dc256_0.1.2.2 ?_
  refine am_s_iadd dc256_0.2.1.1 ?_
  refine am_s_sipush am_cs625 dc256_0.2.1.2 ?_
  refine am_s_imul dc256_0.2.2.1 ?_
  refine am_s_iload_n rfl dc256_0.2.2.2 ?_
  refine am_s_bipush am_cb25 dc256_1.1.1 ?_
  refine am_s_imul dc256_1.1.2.1 ?_
  refine am_s_iadd dc256_1.1.2.2 ?_
  refine am_s_iload_n rfl dc256_1.2.1 ?_
  refine am_s_iadd dc256_1.2.2.1 ?_
  refine am_s_ireturn dc256_1.2.2.2 rfl (am_bkI ?_)
  refine am_s_istore (ls' := [some (.ref 163), some (.int x1), some (.int x2), some (.int x3), some (.int x4), some (.int x5), some (.int (((((x1 * 8) + x2) * 625) + (x3 * 25)) + x4))]) rfl rfl dc265_0.2.1.2 ?_
  refine am_s_aload_n rfl dc265_0.2.2.1 ?_
  refine am_s_getR (r := 184) dc265_0.2.2.2 rfl rfl rfl (hp _ _ _ rfl) ?_
  refine am_s_iload rfl dc265_1.1.1.1 ?_
  refine am_x_iaload (x := I 184 (Int32.toNatClampNeg (((((x1 * 8) + x2) * 625) + (x3 * 25)) + x4))) dc265_1.1.1.2 rfl (q.1) rfl rfl ?_
  refine am_s_if_le dc265_1.1.2.1 rfl (fun c1 => ?_) (fun c1 => ?_)
  · exact (vi_t q.2 c1)
  · refine am_s_aload_n rfl dc265_1.1.2.2 ?_
    refine am_s_getR (r := 184) dc265_1.2.1.1 rfl rfl rfl (hp _ _ _ rfl) ?_
    refine am_s_iload rfl dc265_1.2.1.2 ?_
    refine am_x_iaload (x := I 184 (Int32.toNatClampNeg (((((x1 * 8) + x2) * 625) + (x3 * 25)) + x4))) dc265_1.2.2.1 rfl ((vi_f q.2 c1).1) rfl rfl ?_
    refine am_s_iload rfl dc265_1.2.2.2 ?_
    refine am_s_ic_le dc265_2.1.1.1 rfl (fun c2 => ?_) (fun c2 => ?_)
    · refine am_s_iconst am_cc0 dc265_3.1.1.1 ?_
      exact am_s_zreturn dc265_3.1.1.2 rfl (by decide) ((vi_t (vi_f q.2 c1).2 c2))
    · exact (vi_f (vi_f q.2 c1).2 c2)
theorem v265_32 {sc : Option (Nat × (Nat → Int32))} {d k n : Nat} {P : am_O → Prop} {I : am_I} {J : am_J} {Pf : am_R} (hp : am_PF Pf) {x1 : Int32} {x2 : Int32} {x3 : Int32} {x4 : Int32} {x5 : Int32} {x6 : Int32} (q : (am_mth d 264 [.ref 163, .int x1, .int x2, .int x3, .int x4] (am_SH, I, J, Pf) (am_af sc d 265 38 [some (.ref 163), some (.int x1), some (.int x2), some (.int x3), some (.int x4), some (.int x5), some (.int x6)] [.int x4, .int x3, .int x2, .int x1, .ref 163] [] (am_SH, I, J, Pf) k n true P))) : am_go sc d 265 (32, [some (.ref 163), some (.int x1), some (.int x2), some (.int x3), some (.int x4), some (.int x5), some (.int x6)], [], (am_SH, I, J, Pf), k, n) P := by
  refine am_s_aload_n rfl dc265_2.1.1.2 ?_
  refine am_s_iload_n rfl dc265_2.1.2.1 ?_
  refine am_s_iload_n rfl dc265_2.1.2.2 ?_
  refine am_s_iload_n rfl dc265_2.2.1.1 ?_
  refine am_s_iload rfl dc265_2.2.1.2 ?_
  exact am_s_virtual true dc265_2.2.2.1 rfl (by decide) rfl rfl rfl (q)
theorem v265_41 {sc : Option (Nat × (Nat → Int32))} {d k n : Nat} {P : am_O → Prop} {I : am_I} {J : am_J} {Pf : am_R} (hp : am_PF Pf) {l1 : Option Value} {l2 : Option Value} {l3 : Option Value} {l4 : Option Value} {x5 : Int32} {x6 : Int32} {s0 : Int32} (q : (if s0 = 0 then (P (.inl (some (.int 0)), (am_SH, I, J, Pf), k, n)) else (am_in x6 20000 = true) ∧ (P (.inl (some (.int 1)), (am_SH, am_u I 184 (Int32.toNatClampNeg x6) x5, J, Pf), k, n)))) : am_go sc d 265 (41, [some (.ref 163), l1, l2, l3, l4, some (.int x5), some (.int x6)], [.int s0], (am_SH, I, J, Pf), k, n) P := by
  refine am_s_if_ne dc265_2.2.2.2 rfl (fun c1 => ?_) (fun c1 => ?_)
  · refine am_s_aload_n rfl dc265_3.1.2.1 ?_
    refine am_s_getR (r := 184) dc265_3.1.2.2 rfl rfl rfl (hp _ _ _ rfl) ?_
    refine am_s_iload rfl dc265_3.2.1.1 ?_
    refine am_s_iload rfl dc265_3.2.1.2 ?_
    refine am_s_iastore dc265_3.2.2.1 rfl ((vi_f q c1).1) rfl ?_
    refine am_s_iconst am_cc1 dc265_3.2.2.2 ?_
    exact am_s_zreturn dc265_4 rfl (by decide) ((vi_f q c1).2)
  · refine am_s_iconst am_cc0 dc265_3.1.1.1 ?_
    exact am_s_zreturn dc265_3.1.1.2 rfl (by decide) ((vi_t q (Decidable.not_not.mp c1)))
-- isMoreOf (II)Z
theorem v266_0 {sc : Option (Nat × (Nat → Int32))} {d k n : Nat} {P : am_O → Prop} {I : am_I} {J : am_J} {Pf : am_R} (hp : am_PF Pf) {x1 : Int32} {x2 : Int32} {l3 : Option Value} {l4 : Option Value} {l5 : Option Value} {l6 : Option Value} (q : (am_go sc d 266 (5, [some (.ref 163), some (.int x1), some (.int x2), some (.int 0), some (.int 0), l5, l6], [], (am_SH, I, J, Pf), k, n) P)) : am_go sc d 266 (0, [some (.ref 163), some (.int x1), some (.int x2), l3, l4, l5, l6], [], (am_SH, I, J, Pf), k, n) P := by
  refine am_s_iconst am_cc0 dc266_0.1.1.1 ?_
  refine am_s_istore_n (ls' := [some (.ref 163), some (.int x1), some (.int x2), some (.int 0), l4, l5, l6]) rfl rfl dc266_0.1.1.2 ?_
  refine am_s_iconst am_cc0 dc266_0.1.2.1 ?_
  refine am_s_istore (ls' := [some (.ref 163), some (.int x1), some (.int x2), some (.int 0), some (.int 0), l5, l6]) rfl rfl dc266_0.1.2.2 ?_
  exact q
theorem v266_5 {sc : Option (Nat × (Nat → Int32))} {d k n : Nat} {P : am_O → Prop} {I : am_I} {J : am_J} {Pf : am_R} (hp : am_PF Pf) {x1 : Int32} {x2 : Int32} {x3 : Int32} {x4 : Int32} {l5 : Option Value} {l6 : Option Value} (q : (if (I 167 2) ≤ x4 then (am_go sc d 266 (106, [some (.ref 163), some (.int x1), some (.int x2), some (.int x3), some (.int 0), l5, l6], [], (am_SH, I, J, Pf), k, n) P) else (am_go sc d 266 (19, [some (.ref 163), some (.int x1), some (.int x2), some (.int x3), some (.int x4), some (.int 0), l6], [], (am_SH, I, J, Pf), k, n) P))) : am_go sc d 266 (5, [some (.ref 163), some (.int x1), some (.int x2), some (.int x3), some (.int x4), l5, l6], [], (am_SH, I, J, Pf), k, n) P := by
  refine am_s_iload rfl dc266_0.2.1.1 ?_
  refine am_s_aload_n rfl dc266_0.2.1.2 ?_
  refine am_s_getR (r := 167) dc266_0.2.2.1 rfl rfl rfl (hp _ _ _ rfl) ?_
  refine am_s_iconst am_cc2 dc266_0.2.2.2 ?_
  refine am_x_iaload (x := I 167 2) dc266_1.1.1.1 rfl (by decide +kernel) am_cN2 rfl ?_
  refine am_s_ic_ge dc266_1.1.1.2 rfl (fun c1 => ?_) (fun c1 => ?_)
  · refine am_s_iconst am_cc0 dc266_7.1.2.2 ?_
    refine am_s_istore (ls' := [some (.ref 163), some (.int x1), some (.int x2), some (.int x3), some (.int 0), l5, l6]) rfl rfl dc266_7.2.1.1 ?_
    exact (vi_t q c1)
  · refine am_s_iconst am_cc0 dc266_1.1.2.1 ?_
    refine am_s_istore (ls' := [some (.ref 163), some (.int x1), some (.int x2), some (.int x3), some (.int x4), some (.int 0), l6]) rfl rfl dc266_1.1.2.2 ?_
    exact (vi_f q c1)
theorem v266_19 {sc : Option (Nat × (Nat → Int32))} {d k n : Nat} {P : am_O → Prop} {I : am_I} {J : am_J} {Pf : am_R} (hp : am_PF Pf) {x1 : Int32} {x2 : Int32} {x3 : Int32} {x4 : Int32} {x5 : Int32} {l6 : Option Value} (q : (am_in (25 * x1) 125 = true) ∧ (if (I 183 (Int32.toNatClampNeg (25 * x1))) ≤ x5 then (am_go sc (d + 1) 266 (5, [some (.ref 163), some (.int x1), some (.int x2), some (.int x3), some (.int (x4 + 1)), some (.int x5), l6], [], (am_SH, I, J, Pf), k, n) P) else (am_in (972 + (5 * x4)) 1040 = true) ∧ (if (I 167 (Int32.toNatClampNeg (972 + (5 * x4)))) = x2 then (am_in ((((4 * x1) + x4) * 24) + x5) 384 = true) ∧ (if (I 186 (Int32.toNatClampNeg ((((4 * x1) + x4) * 24) + x5))) = 0 then (am_go sc (d + 1) 266 (19, [some (.ref 163), some (.int x1), some (.int x2), some (.int x3), some (.int x4), some (.int (x5 + 1)), some (.int ((((4 * x1) + x4) * 24) + x5))], [], (am_SH, I, J, Pf), k, n) P) else (am_in ((((4 * x1) + x4) * 24) + x5) 384 = true) ∧ (am_mth (d + 1) 265 [.ref 163, .int x1, .int x2, .int x5, .int (I 185 (Int32.toNatClampNeg ((((4 * x1) + x4) * 24) + x5))), .int 1] (am_SH, I, J, Pf) (am_af sc (d + 1) 266 83 [some (.ref 163), some (.int x1), some (.int x2), some (.int x3), some (.int x4), some (.int x5), some (.int ((((4 * x1) + x4) * 24) + x5))] [.int 1, .int (I 185 (Int32.toNatClampNeg ((((4 * x1) + x4) * 24) + x5))), .int x5, .int x2, .int x1, .ref 163] [] (am_SH, I, J, Pf) k n true P))) else (am_go sc (d + 1) 266 (5, [some (.ref 163), some (.int x1), some (.int x2), some (.int x3), some (.int (x4 + 1)), some (.int x5), l6], [], (am_SH, I, J, Pf), k, n) P)))) : am_go sc (d + 1) 266 (19, [some (.ref 163), some (.int x1), some (.int x2), some (.int x3), some (.int x4), some (.int x5), l6], [], (am_SH, I, J, Pf), k, n) P := by
  refine am_s_iload rfl dc266_1.2.1.1 ?_
  refine am_s_aload_n rfl dc266_1.2.1.2 ?_
  refine am_s_iload_n rfl dc266_1.2.2.1 ?_
  refine am_s_virtual true dc266_1.2.2.2 rfl (by decide) rfl rfl rfl (am_mth_of rfl rfl ?_)
  refine am_s_aload_n rfl dc254_0.1.1 ?_
  refine am_s_getR (r := 183) dc254_0.1.2.1 rfl rfl rfl (hp _ _ _ rfl) ?_
  refine am_s_bipush am_cb25 dc254_0.1.2.2 ?_
  refine am_s_iload_n rfl dc254_0.2.1.1 ?_
  refine am_s_imul dc254_0.2.1.2 ?_
  refine am_x_iaload (x := I 183 (Int32.toNatClampNeg (25 * x1))) dc254_0.2.2.1 rfl (q.1) rfl rfl ?_
  refine am_s_ireturn dc254_0.2.2.2 rfl (am_bkI ?_)
  refine am_s_ic_ge dc266_2.1.1.1 rfl (fun c1 => ?_) (fun c1 => ?_)
  · refine am_s_iinc (ls' := [some (.ref 163), some (.int x1), some (.int x2), some (.int x3), some (.int (x4 + 1)), some (.int x5), l6]) am_cc1 rfl rfl dc266_7.1.1.2 ?_
    refine am_s_goto rfl dc266_7.1.2.1 ?_
    exact (vi_t q.2 c1)
  · refine am_s_aload_n rfl dc266_2.1.1.2 ?_
    refine am_s_getR (r := 167) dc266_2.1.2.1 rfl rfl rfl (hp _ _ _ rfl) ?_
    refine am_s_sipush am_cs972 dc266_2.1.2.2 ?_
    refine am_s_iconst am_cc5 dc266_2.2.1.1 ?_
    refine am_s_iload rfl dc266_2.2.1.2 ?_
    refine am_s_imul dc266_2.2.2.1 ?_
    refine am_s_iadd dc266_2.2.2.2 ?_
    refine am_x_iaload (x := I 167 (Int32.toNatClampNeg (972 + (5 * x4)))) dc266_3.1.1.1 rfl ((vi_f q.2 c1).1) rfl rfl ?_
    refine am_s_iload_n rfl dc266_3.1.1.2 ?_
    refine am_s_ic_ne dc266_3.1.2.1 rfl (fun c2 => ?_) (fun c2 => ?_)
    · refine am_s_iinc (ls' := [some (.ref 163), some (.int x1), some (.int x2), some (.int x3), some (.int (x4 + 1)), some (.int x5), l6]) am_cc1 rfl rfl dc266_7.1.1.2 ?_
      refine am_s_goto rfl dc266_7.1.2.1 ?_
      exact (vi_f (vi_f q.2 c1).2 c2)
    · refine am_s_iconst am_cc4 dc266_3.1.2.2 ?_
      refine am_s_iload_n rfl dc266_3.2.1.1 ?_
      refine am_s_imul dc266_3.2.1.2 ?_
      refine am_s_iload rfl dc266_3.2.2.1 ?_
      refine am_s_iadd dc266_3.2.2.2 ?_
      refine am_s_bipush am_cb24 dc266_4.1.1.1 ?_
      refine am_s_imul dc266_4.1.1.2 ?_
      refine am_s_iload rfl dc266_4.1.2.1 ?_
      refine am_s_iadd dc266_4.1.2.2 ?_
      refine am_s_istore (ls' := [some (.ref 163), some (.int x1), some (.int x2), some (.int x3), some (.int x4), some (.int x5), some (.int ((((4 * x1) + x4) * 24) + x5))]) rfl rfl dc266_4.2.1.1 ?_
      refine am_s_aload_n rfl dc266_4.2.1.2 ?_
      refine am_s_getR (r := 186) dc266_4.2.2.1 rfl rfl rfl (hp _ _ _ rfl) ?_
      refine am_s_iload rfl dc266_4.2.2.2 ?_
      refine am_x_baload (x := I 186 (Int32.toNatClampNeg ((((4 * x1) + x4) * 24) + x5))) dc266_5.1.1.1 rfl ((vi_t (vi_f q.2 c1).2 (Decidable.not_not.mp c2)).1) rfl rfl ?_
      refine am_s_if_eq dc266_5.1.1.2 rfl (fun c3 => ?_) (fun c3 => ?_)
      · refine am_s_iinc (ls' := [some (.ref 163), some (.int x1), some (.int x2), some (.int x3), some (.int x4), some (.int (x5 + 1)), some (.int ((((4 * x1) + x4) * 24) + x5))]) am_cc1 rfl rfl dc266_6.2.2.2 ?_
        refine am_s_goto rfl dc266_7.1.1.1 ?_
        exact (vi_t (vi_t (vi_f q.2 c1).2 (Decidable.not_not.mp c2)).2 c3)
      · refine am_s_aload_n rfl dc266_5.1.2.1 ?_
        refine am_s_iload_n rfl dc266_5.1.2.2 ?_
        refine am_s_iload_n rfl dc266_5.2.1.1 ?_
        refine am_s_iload rfl dc266_5.2.1.2 ?_
        refine am_s_aload_n rfl dc266_5.2.2.1 ?_
        refine am_s_getR (r := 185) dc266_5.2.2.2 rfl rfl rfl (hp _ _ _ rfl) ?_
        refine am_s_iload rfl dc266_6.1.1.1 ?_
        refine am_x_iaload (x := I 185 (Int32.toNatClampNeg ((((4 * x1) + x4) * 24) + x5))) dc266_6.1.1.2 rfl ((vi_f (vi_t (vi_f q.2 c1).2 (Decidable.not_not.mp c2)).2 c3).1) rfl rfl ?_
        refine am_s_iconst am_cc1 dc266_6.1.2.1 ?_
        exact am_s_virtual true dc266_6.1.2.2 rfl (by decide) rfl rfl rfl ((vi_f (vi_t (vi_f q.2 c1).2 (Decidable.not_not.mp c2)).2 c3).2)
theorem v266_106 {sc : Option (Nat × (Nat → Int32))} {d k n : Nat} {P : am_O → Prop} {I : am_I} {J : am_J} {Pf : am_R} (hp : am_PF Pf) {x1 : Int32} {x2 : Int32} {x3 : Int32} {x4 : Int32} {l5 : Option Value} {l6 : Option Value} (q : (if (I 167 1) ≤ x4 then (x3 = 0 ∨ x3 = 1) ∧ (P (.inl (some (.int x3)), (am_SH, I, J, Pf), k, n)) else (am_go sc d 266 (120, [some (.ref 163), some (.int x1), some (.int x2), some (.int x3), some (.int x4), some (.int 0), l6], [], (am_SH, I, J, Pf), k, n) P))) : am_go sc d 266 (106, [some (.ref 163), some (.int x1), some (.int x2), some (.int x3), some (.int x4), l5, l6], [], (am_SH, I, J, Pf), k, n) P := by
  refine am_s_iload rfl dc266_7.2.1.2 ?_
  refine am_s_aload_n rfl dc266_7.2.2.1 ?_
  refine am_s_getR (r := 167) dc266_7.2.2.2 rfl rfl rfl (hp _ _ _ rfl) ?_
  refine am_s_iconst am_cc1 dc266_8.1.1.1 ?_
  refine am_x_iaload (x := I 167 1) dc266_8.1.1.2 rfl (by decide +kernel) am_cN1 rfl ?_
  refine am_s_ic_ge dc266_8.1.2.1 rfl (fun c1 => ?_) (fun c1 => ?_)
  · refine am_s_iload_n rfl dc266_15.1 ?_
    exact am_s_zreturn dc266_15.2 rfl ((vi_t q c1).1) ((vi_t q c1).2)
  · refine am_s_iconst am_cc0 dc266_8.1.2.2 ?_
    refine am_s_istore (ls' := [some (.ref 163), some (.int x1), some (.int x2), some (.int x3), some (.int x4), some (.int 0), l6]) rfl rfl dc266_8.2.1.1 ?_
    exact (vi_f q c1)
theorem v266_120 {sc : Option (Nat × (Nat → Int32))} {d k n : Nat} {P : am_O → Prop} {I : am_I} {J : am_J} {Pf : am_R} (hp : am_PF Pf) {x1 : Int32} {x2 : Int32} {x3 : Int32} {x4 : Int32} {x5 : Int32} {l6 : Option Value} (q : (am_in (25 * x1) 125 = true) ∧ (if (I 183 (Int32.toNatClampNeg (25 * x1))) < x5 then (am_go sc (d + 1) 266 (106, [some (.ref 163), some (.int x1), some (.int x2), some (.int x3), some (.int (x4 + 1)), some (.int x5), l6], [], (am_SH, I, J, Pf), k, n) P) else (am_in (32 + (3 * x4)) 1040 = true) ∧ (if (I 167 (Int32.toNatClampNeg (32 + (3 * x4)))) = x2 then (am_mth (d + 1) 267 [.ref 163, .int x1, .int x4, .int x5] (am_SH, I, J, Pf) (am_af sc (d + 1) 266 152 [some (.ref 163), some (.int x1), some (.int x2), some (.int x3), some (.int x4), some (.int x5), l6] [.int x5, .int x4, .int x1, .ref 163] [] (am_SH, I, J, Pf) k n true P)) else (am_go sc (d + 1) 266 (106, [some (.ref 163), some (.int x1), some (.int x2), some (.int x3), some (.int (x4 + 1)), some (.int x5), l6], [], (am_SH, I, J, Pf), k, n) P)))) : am_go sc (d + 1) 266 (120, [some (.ref 163), some (.int x1), some (.int x2), some (.int x3), some (.int x4), some (.int x5), l6], [], (am_SH, I, J, Pf), k, n) P := by
  refine am_s_iload rfl dc266_8.2.1.2 ?_
  refine am_s_aload_n rfl dc266_8.2.2.1 ?_
  refine am_s_iload_n rfl dc266_8.2.2.2 ?_
  refine am_s_virtual true dc266_9.1.1.1 rfl (by decide) rfl rfl rfl (am_mth_of rfl rfl ?_)
  refine am_s_aload_n rfl dc254_0.1.1 ?_
  refine am_s_getR (r := 183) dc254_0.1.2.1 rfl rfl rfl (hp _ _ _ rfl) ?_
  refine am_s_bipush am_cb25 dc254_0.1.2.2 ?_
  refine am_s_iload_n rfl dc254_0.2.1.1 ?_
  refine am_s_imul dc254_0.2.1.2 ?_
  refine am_x_iaload (x := I 183 (Int32.toNatClampNeg (25 * x1))) dc254_0.2.2.1 rfl (q.1) rfl rfl ?_
  refine am_s_ireturn dc254_0.2.2.2 rfl (am_bkI ?_)
  refine am_s_ic_gt dc266_9.1.1.2 rfl (fun c1 => ?_) (fun c1 => ?_)
  · refine am_s_iinc (ls' := [some (.ref 163), some (.int x1), some (.int x2), some (.int x3), some (.int (x4 + 1)), some (.int x5), l6]) am_cc1 rfl rfl dc266_14.2.2.1 ?_
    refine am_s_goto rfl dc266_14.2.2.2 ?_
    exact (vi_t q.2 c1)
  · refine am_s_aload_n rfl dc266_9.1.2.1 ?_
    refine am_s_getR (r := 167) dc266_9.1.2.2 rfl rfl rfl (hp _ _ _ rfl) ?_
    refine am_s_bipush am_cb32 dc266_9.2.1.1 ?_
    refine am_s_iconst am_cc3 dc266_9.2.1.2 ?_
    refine am_s_iload rfl dc266_9.2.2.1 ?_
    refine am_s_imul dc266_9.2.2.2 ?_
    refine am_s_iadd dc266_10.1.1.1 ?_
    refine am_x_iaload (x := I 167 (Int32.toNatClampNeg (32 + (3 * x4)))) dc266_10.1.1.2 rfl ((vi_f q.2 c1).1) rfl rfl ?_
    refine am_s_iload_n rfl dc266_10.1.2.1 ?_
    refine am_s_ic_ne dc266_10.1.2.2 rfl (fun c2 => ?_) (fun c2 => ?_)
    · refine am_s_iinc (ls' := [some (.ref 163), some (.int x1), some (.int x2), some (.int x3), some (.int (x4 + 1)), some (.int x5), l6]) am_cc1 rfl rfl dc266_14.2.2.1 ?_
      refine am_s_goto rfl dc266_14.2.2.2 ?_
      exact (vi_f (vi_f q.2 c1).2 c2)
    · refine am_s_aload_n rfl dc266_10.2.1.1 ?_
      refine am_s_iload_n rfl dc266_10.2.1.2 ?_
      refine am_s_iload rfl dc266_10.2.2.1 ?_
      refine am_s_iload rfl dc266_10.2.2.2 ?_
      exact am_s_virtual true dc266_11.1.1.1 rfl (by decide) rfl rfl rfl ((vi_t (vi_f q.2 c1).2 (Decidable.not_not.mp c2)))
theorem v266_159 {sc : Option (Nat × (Nat → Int32))} {d k n : Nat} {P : am_O → Prop} {I : am_I} {J : am_J} {Pf : am_R} (hp : am_PF Pf) {x1 : Int32} {x2 : Int32} {x3 : Int32} {x4 : Int32} {x5 : Int32} {x6 : Int32} (q : (am_in (25 * x1) 125 = true) ∧ (if (I 183 (Int32.toNatClampNeg (25 * x1))) < x6 then (am_go sc (d + 1) 266 (120, [some (.ref 163), some (.int x1), some (.int x2), some (.int x3), some (.int x4), some (.int (x5 + 1)), some (.int x6)], [], (am_SH, I, J, Pf), k, n) P) else (am_in x6 25 = true) ∧ (if (I 188 (Int32.toNatClampNeg x6)) ≤ 0 then (am_go sc (d + 1) 266 (159, [some (.ref 163), some (.int x1), some (.int x2), some (.int x3), some (.int x4), some (.int x5), some (.int (x6 + 1))], [], (am_SH, I, J, Pf), k, n) P) else (am_in x6 25 = true) ∧ (am_mth (d + 1) 265 [.ref 163, .int x1, .int x2, .int x5, .int x6, .int (I 188 (Int32.toNatClampNeg x6))] (am_SH, I, J, Pf) (am_af sc (d + 1) 266 193 [some (.ref 163), some (.int x1), some (.int x2), some (.int x3), some (.int x4), some (.int x5), some (.int x6)] [.int (I 188 (Int32.toNatClampNeg x6)), .int x6, .int x5, .int x2, .int x1, .ref 163] [] (am_SH, I, J, Pf) k n true P))))) : am_go sc (d + 1) 266 (159, [some (.ref 163), some (.int x1), some (.int x2), some (.int x3), some (.int x4), some (.int x5), some (.int x6)], [], (am_SH, I, J, Pf), k, n) P := by
  refine am_s_iload rfl dc266_11.1.2.2 ?_
  refine am_s_aload_n rfl dc266_11.2.1.1 ?_
  refine am_s_iload_n rfl dc266_11.2.1.2 ?_
  refine am_s_virtual true dc266_11.2.2.1 rfl (by decide) rfl rfl rfl (am_mth_of rfl rfl ?_)
  refine am_s_aload_n rfl dc254_0.1.1 ?_
  refine am_s_getR (r := 183) dc254_0.1.2.1 rfl rfl rfl (hp _ _ _ rfl) ?_
  refine am_s_bipush am_cb25 dc254_0.1.2.2 ?_
  refine am_s_iload_n rfl dc254_0.2.1.1 ?_
  refine am_s_imul dc254_0.2.1.2 ?_
  refine am_x_iaload (x := I 183 (Int32.toNatClampNeg (25 * x1))) dc254_0.2.2.1 rfl (q.1) rfl rfl ?_
  refine am_s_ireturn dc254_0.2.2.2 rfl (am_bkI ?_)
  refine am_s_ic_gt dc266_11.2.2.2 rfl (fun c1 => ?_) (fun c1 => ?_)
  · refine am_s_iinc (ls' := [some (.ref 163), some (.int x1), some (.int x2), some (.int x3), some (.int x4), some (.int (x5 + 1)), some (.int x6)]) am_cc1 rfl rfl dc266_14.2.1.1 ?_
    refine am_s_goto rfl dc266_14.2.1.2 ?_
    exact (vi_t q.2 c1)
  · refine am_s_aload_n rfl dc266_12.1.1.1 ?_
    refine am_s_getR (r := 188) dc266_12.1.1.2 rfl rfl rfl (hp _ _ _ rfl) ?_
    refine am_s_iload rfl dc266_12.1.2.1 ?_
    refine am_x_iaload (x := I 188 (Int32.toNatClampNeg x6)) dc266_12.1.2.2 rfl ((vi_f q.2 c1).1) rfl rfl ?_
    refine am_s_if_le dc266_12.2.1.1 rfl (fun c2 => ?_) (fun c2 => ?_)
    · refine am_s_iinc (ls' := [some (.ref 163), some (.int x1), some (.int x2), some (.int x3), some (.int x4), some (.int x5), some (.int (x6 + 1))]) am_cc1 rfl rfl dc266_14.1.2.1 ?_
      refine am_s_goto rfl dc266_14.1.2.2 ?_
      exact (vi_t (vi_f q.2 c1).2 c2)
    · refine am_s_aload_n rfl dc266_12.2.1.2 ?_
      refine am_s_iload_n rfl dc266_12.2.2.1 ?_
      refine am_s_iload_n rfl dc266_12.2.2.2 ?_
      refine am_s_iload rfl dc266_13.1.1.1 ?_
      refine am_s_iload rfl dc266_13.1.1.2 ?_
      refine am_s_aload_n rfl dc266_13.1.2.1 ?_
      refine am_s_getR (r := 188) dc266_13.1.2.2 rfl rfl rfl (hp _ _ _ rfl) ?_
      refine am_s_iload rfl dc266_13.2.1.1 ?_
      refine am_x_iaload (x := I 188 (Int32.toNatClampNeg x6)) dc266_13.2.1.2 rfl ((vi_f (vi_f q.2 c1).2 c2).1) rfl rfl ?_
      exact am_s_virtual true dc266_13.2.2.1 rfl (by decide) rfl rfl rfl ((vi_f (vi_f q.2 c1).2 c2).2)
theorem v266_86 {sc : Option (Nat × (Nat → Int32))} {d k n : Nat} {P : am_O → Prop} {I : am_I} {J : am_J} {Pf : am_R} (hp : am_PF Pf) {x1 : Int32} {x2 : Int32} {x3 : Int32} {x4 : Int32} {x5 : Int32} {l6 : Option Value} {s0 : Int32} (q : (if s0 = 0 then (am_go sc d 266 (19, [some (.ref 163), some (.int x1), some (.int x2), some (.int x3), some (.int x4), some (.int (x5 + 1)), l6], [], (am_SH, I, J, Pf), k, n) P) else (am_go sc d 266 (19, [some (.ref 163), some (.int x1), some (.int x2), some (.int 1), some (.int x4), some (.int (x5 + 1)), l6], [], (am_SH, I, J, Pf), k, n) P))) : am_go sc d 266 (86, [some (.ref 163), some (.int x1), some (.int x2), some (.int x3), some (.int x4), some (.int x5), l6], [.int s0], (am_SH, I, J, Pf), k, n) P := by
  refine am_s_if_eq dc266_6.2.1.1 rfl (fun c1 => ?_) (fun c1 => ?_)
  · refine am_s_iinc (ls' := [some (.ref 163), some (.int x1), some (.int x2), some (.int x3), some (.int x4), some (.int (x5 + 1)), l6]) am_cc1 rfl rfl dc266_6.2.2.2 ?_
    refine am_s_goto rfl dc266_7.1.1.1 ?_
    exact (vi_t q c1)
  · refine am_s_iconst am_cc1 dc266_6.2.1.2 ?_
    refine am_s_istore_n (ls' := [some (.ref 163), some (.int x1), some (.int x2), some (.int 1), some (.int x4), some (.int x5), l6]) rfl rfl dc266_6.2.2.1 ?_
    refine am_s_iinc (ls' := [some (.ref 163), some (.int x1), some (.int x2), some (.int 1), some (.int x4), some (.int (x5 + 1)), l6]) am_cc1 rfl rfl dc266_6.2.2.2 ?_
    refine am_s_goto rfl dc266_7.1.1.1 ?_
    exact (vi_f q c1)
theorem v266_155 {sc : Option (Nat × (Nat → Int32))} {d k n : Nat} {P : am_O → Prop} {I : am_I} {J : am_J} {Pf : am_R} (hp : am_PF Pf) {x1 : Int32} {x2 : Int32} {x3 : Int32} {x4 : Int32} {x5 : Int32} {l6 : Option Value} (q : (am_go sc d 266 (159, [some (.ref 163), some (.int x1), some (.int x2), some (.int x3), some (.int x4), some (.int x5), some (.int x5)], [], (am_SH, I, J, Pf), k, n) P)) : am_go sc d 266 (155, [some (.ref 163), some (.int x1), some (.int x2), some (.int x3), some (.int x4), some (.int x5), l6], [], (am_SH, I, J, Pf), k, n) P := by
  refine am_s_iload rfl dc266_11.1.1.2 ?_
  refine am_s_istore (ls' := [some (.ref 163), some (.int x1), some (.int x2), some (.int x3), some (.int x4), some (.int x5), some (.int x5)]) rfl rfl dc266_11.1.2.1 ?_
  exact q
theorem v266_196 {sc : Option (Nat × (Nat → Int32))} {d k n : Nat} {P : am_O → Prop} {I : am_I} {J : am_J} {Pf : am_R} (hp : am_PF Pf) {x1 : Int32} {x2 : Int32} {x3 : Int32} {x4 : Int32} {x5 : Int32} {x6 : Int32} {s0 : Int32} (q : (if s0 = 0 then (am_go sc d 266 (159, [some (.ref 163), some (.int x1), some (.int x2), some (.int x3), some (.int x4), some (.int x5), some (.int (x6 + 1))], [], (am_SH, I, J, Pf), k, n) P) else (am_go sc d 266 (159, [some (.ref 163), some (.int x1), some (.int x2), some (.int 1), some (.int x4), some (.int x5), some (.int (x6 + 1))], [], (am_SH, I, J, Pf), k, n) P))) : am_go sc d 266 (196, [some (.ref 163), some (.int x1), some (.int x2), some (.int x3), some (.int x4), some (.int x5), some (.int x6)], [.int s0], (am_SH, I, J, Pf), k, n) P := by
  refine am_s_if_eq dc266_13.2.2.2 rfl (fun c1 => ?_) (fun c1 => ?_)
  · refine am_s_iinc (ls' := [some (.ref 163), some (.int x1), some (.int x2), some (.int x3), some (.int x4), some (.int x5), some (.int (x6 + 1))]) am_cc1 rfl rfl dc266_14.1.2.1 ?_
    refine am_s_goto rfl dc266_14.1.2.2 ?_
    exact (vi_t q c1)
  · refine am_s_iconst am_cc1 dc266_14.1.1.1 ?_
    refine am_s_istore_n (ls' := [some (.ref 163), some (.int x1), some (.int x2), some (.int 1), some (.int x4), some (.int x5), some (.int x6)]) rfl rfl dc266_14.1.1.2 ?_
    refine am_s_iinc (ls' := [some (.ref 163), some (.int x1), some (.int x2), some (.int 1), some (.int x4), some (.int x5), some (.int (x6 + 1))]) am_cc1 rfl rfl dc266_14.1.2.1 ?_
    refine am_s_goto rfl dc266_14.1.2.2 ?_
    exact (vi_f q c1)
-- goesAlong (III)V
theorem v267_0 {sc : Option (Nat × (Nat → Int32))} {d k n : Nat} {P : am_O → Prop} {I : am_I} {J : am_J} {Pf : am_R} (hp : am_PF Pf) {x1 : Int32} {x2 : Int32} {x3 : Int32} {l4 : Option Value} {l5 : Option Value} (q : (am_go sc d 267 (3, [some (.ref 163), some (.int x1), some (.int x2), some (.int x3), some (.int 0), l5], [], (am_SH, I, J, Pf), k, n) P)) : am_go sc d 267 (0, [some (.ref 163), some (.int x1), some (.int x2), some (.int x3), l4, l5], [], (am_SH, I, J, Pf), k, n) P := by
  refine am_s_iconst am_cc0 dc267_0.1.1.1 ?_
  refine am_s_istore (ls' := [some (.ref 163), some (.int x1), some (.int x2), some (.int x3), some (.int 0), l5]) rfl rfl dc267_0.1.1.2 ?_
  exact q
theorem v267_3 {sc : Option (Nat × (Nat → Int32))} {d k n : Nat} {P : am_O → Prop} {I : am_I} {J : am_J} {Pf : am_R} (hp : am_PF Pf) {x1 : Int32} {x2 : Int32} {x3 : Int32} {x4 : Int32} {l5 : Option Value} (q : (if 25 ≤ x4 then (am_go sc d 267 (37, [some (.ref 163), some (.int x1), some (.int x2), some (.int x3), some (.int 0), l5], [], (am_SH, I, J, Pf), k, n) P) else (if x4 = x3 then (am_in x4 25 = true) ∧ (am_go sc d 267 (3, [some (.ref 163), some (.int x1), some (.int x2), some (.int x3), some (.int (x4 + 1)), l5], [], (am_SH, am_u I 188 (Int32.toNatClampNeg x4) 1, J, Pf), k, n) P) else (am_in x4 25 = true) ∧ (am_go sc d 267 (3, [some (.ref 163), some (.int x1), some (.int x2), some (.int x3), some (.int (x4 + 1)), l5], [], (am_SH, am_u I 188 (Int32.toNatClampNeg x4) 0, J, Pf), k, n) P)))) : am_go sc d 267 (3, [some (.ref 163), some (.int x1), some (.int x2), some (.int x3), some (.int x4), l5], [], (am_SH, I, J, Pf), k, n) P := by
  refine am_s_iload rfl dc267_0.1.2.1 ?_
  refine am_s_bipush am_cb25 dc267_0.1.2.2 ?_
  refine am_s_ic_ge dc267_0.2.1.1 rfl (fun c1 => ?_) (fun c1 => ?_)
  · refine am_s_iconst am_cc0 dc267_2.1.1.2 ?_
    refine am_s_istore (ls' := [some (.ref 163), some (.int x1), some (.int x2), some (.int x3), some (.int 0), l5]) rfl rfl dc267_2.1.2.1 ?_
    exact (vi_t q c1)
  · refine am_s_aload_n rfl dc267_0.2.1.2 ?_
    refine am_s_getR (r := 188) dc267_0.2.2.1 rfl rfl rfl (hp _ _ _ rfl) ?_
    refine am_s_iload rfl dc267_0.2.2.2 ?_
    refine am_s_iload rfl dc267_1.1.1.1 ?_
    refine am_s_iload_n rfl dc267_1.1.1.2 ?_
    refine am_s_ic_ne dc267_1.1.2.1 rfl (fun c2 => ?_) (fun c2 => ?_)
    · refine am_s_iconst am_cc0 dc267_1.2.1.2 ?_
      refine am_s_iastore dc267_1.2.2.1 rfl ((vi_f (vi_f q c1) c2).1) rfl ?_
      refine am_s_iinc (ls' := [some (.ref 163), some (.int x1), some (.int x2), some (.int x3), some (.int (x4 + 1)), l5]) am_cc1 rfl rfl dc267_1.2.2.2 ?_
      refine am_s_goto rfl dc267_2.1.1.1 ?_
      exact (vi_f (vi_f q c1) c2).2
    · refine am_s_iconst am_cc1 dc267_1.1.2.2 ?_
      refine am_s_goto rfl dc267_1.2.1.1 ?_
      refine am_s_iastore dc267_1.2.2.1 rfl ((vi_t (vi_f q c1) (Decidable.not_not.mp c2)).1) rfl ?_
      refine am_s_iinc (ls' := [some (.ref 163), some (.int x1), some (.int x2), some (.int x3), some (.int (x4 + 1)), l5]) am_cc1 rfl rfl dc267_1.2.2.2 ?_
      refine am_s_goto rfl dc267_2.1.1.1 ?_
      exact (vi_t (vi_f q c1) (Decidable.not_not.mp c2)).2
theorem v267_37 {sc : Option (Nat × (Nat → Int32))} {d k n : Nat} {P : am_O → Prop} {I : am_I} {J : am_J} {Pf : am_R} (hp : am_PF Pf) {x1 : Int32} {x2 : Int32} {x3 : Int32} {x4 : Int32} {l5 : Option Value} (q : (am_in ((32 + (3 * x2)) + 2) 1040 = true) ∧ (if (I 167 (Int32.toNatClampNeg ((32 + (3 * x2)) + 2))) ≤ x4 then (P (.inl none, (am_SH, I, J, Pf), k, n)) else (am_go sc d 267 (58, [some (.ref 163), some (.int x1), some (.int x2), some (.int x3), some (.int x4), some (.int 0)], [], (am_SH, I, J, Pf), k, n) P))) : am_go sc d 267 (37, [some (.ref 163), some (.int x1), some (.int x2), some (.int x3), some (.int x4), l5], [], (am_SH, I, J, Pf), k, n) P := by
  refine am_s_iload rfl dc267_2.1.2.2 ?_
  refine am_s_aload_n rfl dc267_2.2.1.1 ?_
  refine am_s_getR (r := 167) dc267_2.2.1.2 rfl rfl rfl (hp _ _ _ rfl) ?_
  refine am_s_bipush am_cb32 dc267_2.2.2.1 ?_
  refine am_s_iconst am_cc3 dc267_2.2.2.2 ?_
  refine am_s_iload_n rfl dc267_3.1.1.1 ?_
  refine am_s_imul dc267_3.1.1.2 ?_
  refine am_s_iadd dc267_3.1.2.1 ?_
  refine am_s_iconst am_cc2 dc267_3.1.2.2 ?_
  refine am_s_iadd dc267_3.2.1.1 ?_
  refine am_x_iaload (x := I 167 (Int32.toNatClampNeg ((32 + (3 * x2)) + 2))) dc267_3.2.1.2 rfl (q.1) rfl rfl ?_
  refine am_s_ic_ge dc267_3.2.2.1 rfl (fun c1 => ?_) (fun c1 => ?_)
  · exact am_s_return dc267_10.2.2.2 rfl ((vi_t q.2 c1))
  · refine am_s_iconst am_cc0 dc267_3.2.2.2 ?_
    refine am_s_istore (ls' := [some (.ref 163), some (.int x1), some (.int x2), some (.int x3), some (.int x4), some (.int 0)]) rfl rfl dc267_4.1.1.1 ?_
    exact (vi_f q.2 c1)
theorem v267_58 {sc : Option (Nat × (Nat → Int32))} {d k n : Nat} {P : am_O → Prop} {I : am_I} {J : am_J} {Pf : am_R} (hp : am_PF Pf) {x1 : Int32} {x2 : Int32} {x3 : Int32} {x4 : Int32} {x5 : Int32} (q : (if 25 ≤ x5 then (am_go sc d 267 (82, [some (.ref 163), some (.int x1), some (.int x2), some (.int x3), some (.int x4), some (.int x3)], [], (am_SH, I, J, Pf), k, n) P) else (am_in x5 25 = true) ∧ (am_go sc d 267 (58, [some (.ref 163), some (.int x1), some (.int x2), some (.int x3), some (.int x4), some (.int (x5 + 1))], [], (am_SH, am_u I 189 (Int32.toNatClampNeg x5) 0, J, Pf), k, n) P))) : am_go sc d 267 (58, [some (.ref 163), some (.int x1), some (.int x2), some (.int x3), some (.int x4), some (.int x5)], [], (am_SH, I, J, Pf), k, n) P := by
  refine am_s_iload rfl dc267_4.1.1.2 ?_
  refine am_s_bipush am_cb25 dc267_4.1.2.1 ?_
  refine am_s_ic_ge dc267_4.1.2.2 rfl (fun c1 => ?_) (fun c1 => ?_)
  · refine am_s_iload_n rfl dc267_5.1.2.2 ?_
    refine am_s_istore (ls' := [some (.ref 163), some (.int x1), some (.int x2), some (.int x3), some (.int x4), some (.int x3)]) rfl rfl dc267_5.2.1.1 ?_
    exact (vi_t q c1)
  · refine am_s_aload_n rfl dc267_4.2.1.1 ?_
    refine am_s_getR (r := 189) dc267_4.2.1.2 rfl rfl rfl (hp _ _ _ rfl) ?_
    refine am_s_iload rfl dc267_4.2.2.1 ?_
    refine am_s_iconst am_cc0 dc267_4.2.2.2 ?_
    refine am_s_iastore dc267_5.1.1.1 rfl ((vi_f q c1).1) rfl ?_
    refine am_s_iinc (ls' := [some (.ref 163), some (.int x1), some (.int x2), some (.int x3), some (.int x4), some (.int (x5 + 1))]) am_cc1 rfl rfl dc267_5.1.1.2 ?_
    refine am_s_goto rfl dc267_5.1.2.1 ?_
    exact (vi_f q c1).2
theorem v267_82 {sc : Option (Nat × (Nat → Int32))} {d k n : Nat} {P : am_O → Prop} {I : am_I} {J : am_J} {Pf : am_R} (hp : am_PF Pf) {x1 : Int32} {x2 : Int32} {x3 : Int32} {x4 : Int32} {x5 : Int32} (q : (am_in (25 * x1) 125 = true) ∧ (if (I 183 (Int32.toNatClampNeg (25 * x1))) < x5 then (am_go sc (d + 1) 267 (128, [some (.ref 163), some (.int x1), some (.int x2), some (.int x3), some (.int x4), some (.int 0)], [], (am_SH, I, J, Pf), k, n) P) else (am_in x5 25 = true) ∧ (if (I 188 (Int32.toNatClampNeg x5)) ≤ 0 then (am_go sc (d + 1) 267 (82, [some (.ref 163), some (.int x1), some (.int x2), some (.int x3), some (.int x4), some (.int (x5 + 1))], [], (am_SH, I, J, Pf), k, n) P) else (am_in x5 25 = true) ∧ (am_mth (d + 1) 270 [.ref 163, .int x1, .int x2, .int x4, .int x5, .int (I 188 (Int32.toNatClampNeg x5))] (am_SH, I, J, Pf) (am_af sc (d + 1) 267 116 [some (.ref 163), some (.int x1), some (.int x2), some (.int x3), some (.int x4), some (.int x5)] [.int (I 188 (Int32.toNatClampNeg x5)), .int x5, .int x4, .int x2, .int x1, .ref 163] [] (am_SH, I, J, Pf) k n true P))))) : am_go sc (d + 1) 267 (82, [some (.ref 163), some (.int x1), some (.int x2), some (.int x3), some (.int x4), some (.int x5)], [], (am_SH, I, J, Pf), k, n) P := by
  refine am_s_iload rfl dc267_5.2.1.2 ?_
  refine am_s_aload_n rfl dc267_5.2.2.1 ?_
  refine am_s_iload_n rfl dc267_5.2.2.2 ?_
  refine am_s_virtual true dc267_6.1.1.1 rfl (by decide) rfl rfl rfl (am_mth_of rfl rfl ?_)
  refine am_s_aload_n rfl dc254_0.1.1 ?_
  refine am_s_getR (r := 183) dc254_0.1.2.1 rfl rfl rfl (hp _ _ _ rfl) ?_
  refine am_s_bipush am_cb25 dc254_0.1.2.2 ?_
  refine am_s_iload_n rfl dc254_0.2.1.1 ?_
  refine am_s_imul dc254_0.2.1.2 ?_
  refine am_x_iaload (x := I 183 (Int32.toNatClampNeg (25 * x1))) dc254_0.2.2.1 rfl (q.1) rfl rfl ?_
  refine am_s_ireturn dc254_0.2.2.2 rfl (am_bkI ?_)
  refine am_s_ic_gt dc267_6.1.1.2 rfl (fun c1 => ?_) (fun c1 => ?_)
  · refine am_s_iconst am_cc0 dc267_8.1.2.2 ?_
    refine am_s_istore (ls' := [some (.ref 163), some (.int x1), some (.int x2), some (.int x3), some (.int x4), some (.int 0)]) rfl rfl dc267_8.2.1.1 ?_
    exact (vi_t q.2 c1)
  · refine am_s_aload_n rfl dc267_6.1.2.1 ?_
    refine am_s_getR (r := 188) dc267_6.1.2.2 rfl rfl rfl (hp _ _ _ rfl) ?_
    refine am_s_iload rfl dc267_6.2.1.1 ?_
    refine am_x_iaload (x := I 188 (Int32.toNatClampNeg x5)) dc267_6.2.1.2 rfl ((vi_f q.2 c1).1) rfl rfl ?_
    refine am_s_if_le dc267_6.2.2.1 rfl (fun c2 => ?_) (fun c2 => ?_)
    · refine am_s_iinc (ls' := [some (.ref 163), some (.int x1), some (.int x2), some (.int x3), some (.int x4), some (.int (x5 + 1))]) am_cc1 rfl rfl dc267_8.1.1.2 ?_
      refine am_s_goto rfl dc267_8.1.2.1 ?_
      exact (vi_t (vi_f q.2 c1).2 c2)
    · refine am_s_aload_n rfl dc267_6.2.2.2 ?_
      refine am_s_iload_n rfl dc267_7.1.1.1 ?_
      refine am_s_iload_n rfl dc267_7.1.1.2 ?_
      refine am_s_iload rfl dc267_7.1.2.1 ?_
      refine am_s_iload rfl dc267_7.1.2.2 ?_
      refine am_s_aload_n rfl dc267_7.2.1.1 ?_
      refine am_s_getR (r := 188) dc267_7.2.1.2 rfl rfl rfl (hp _ _ _ rfl) ?_
      refine am_s_iload rfl dc267_7.2.2.1 ?_
      refine am_x_iaload (x := I 188 (Int32.toNatClampNeg x5)) dc267_7.2.2.2 rfl ((vi_f (vi_f q.2 c1).2 c2).1) rfl rfl ?_
      exact am_s_virtual true dc267_8.1.1.1 rfl (by decide) rfl rfl rfl ((vi_f (vi_f q.2 c1).2 c2).2)
theorem v267_128 {sc : Option (Nat × (Nat → Int32))} {d k n : Nat} {P : am_O → Prop} {I : am_I} {J : am_J} {Pf : am_R} (hp : am_PF Pf) {x1 : Int32} {x2 : Int32} {x3 : Int32} {x4 : Int32} {x5 : Int32} (q : (if 25 ≤ x5 then (am_go sc d 267 (37, [some (.ref 163), some (.int x1), some (.int x2), some (.int x3), some (.int (x4 + 1)), some (.int x5)], [], (am_SH, I, J, Pf), k, n) P) else (am_in x5 25 = true) ∧ (am_in x5 25 = true) ∧ (am_go sc d 267 (128, [some (.ref 163), some (.int x1), some (.int x2), some (.int x3), some (.int x4), some (.int (x5 + 1))], [], (am_SH, am_u I 188 (Int32.toNatClampNeg x5) (I 189 (Int32.toNatClampNeg x5)), J, Pf), k, n) P))) : am_go sc d 267 (128, [some (.ref 163), some (.int x1), some (.int x2), some (.int x3), some (.int x4), some (.int x5)], [], (am_SH, I, J, Pf), k, n) P := by
  refine am_s_iload rfl dc267_8.2.1.2 ?_
  refine am_s_bipush am_cb25 dc267_8.2.2.1 ?_
  refine am_s_ic_ge dc267_8.2.2.2 rfl (fun c1 => ?_) (fun c1 => ?_)
  · refine am_s_iinc (ls' := [some (.ref 163), some (.int x1), some (.int x2), some (.int x3), some (.int (x4 + 1)), some (.int x5)]) am_cc1 rfl rfl dc267_10.2.1 ?_
    refine am_s_goto rfl dc267_10.2.2.1 ?_
    exact (vi_t q c1)
  · refine am_s_aload_n rfl dc267_9.1.1.1 ?_
    refine am_s_getR (r := 188) dc267_9.1.1.2 rfl rfl rfl (hp _ _ _ rfl) ?_
    refine am_s_iload rfl dc267_9.1.2.1 ?_
    refine am_s_aload_n rfl dc267_9.1.2.2 ?_
    refine am_s_getR (r := 189) dc267_9.2.1.1 rfl rfl rfl (hp _ _ _ rfl) ?_
    refine am_s_iload rfl dc267_9.2.1.2 ?_
    refine am_x_iaload (x := I 189 (Int32.toNatClampNeg x5)) dc267_9.2.2.1 rfl ((vi_f q c1).1) rfl rfl ?_
    refine am_s_iastore dc267_9.2.2.2 rfl ((vi_f q c1).2.1) rfl ?_
    refine am_s_iinc (ls' := [some (.ref 163), some (.int x1), some (.int x2), some (.int x3), some (.int x4), some (.int (x5 + 1))]) am_cc1 rfl rfl dc267_10.1.1 ?_
    refine am_s_goto rfl dc267_10.1.2 ?_
    exact (vi_f q c1).2.2
theorem v267_119 {sc : Option (Nat × (Nat → Int32))} {d k n : Nat} {P : am_O → Prop} {I : am_I} {J : am_J} {Pf : am_R} (hp : am_PF Pf) {x1 : Int32} {x2 : Int32} {x3 : Int32} {x4 : Int32} {x5 : Int32} (q : (am_go sc d 267 (82, [some (.ref 163), some (.int x1), some (.int x2), some (.int x3), some (.int x4), some (.int (x5 + 1))], [], (am_SH, I, J, Pf), k, n) P)) : am_go sc d 267 (119, [some (.ref 163), some (.int x1), some (.int x2), some (.int x3), some (.int x4), some (.int x5)], [], (am_SH, I, J, Pf), k, n) P := by
  refine am_s_iinc (ls' := [some (.ref 163), some (.int x1), some (.int x2), some (.int x3), some (.int x4), some (.int (x5 + 1))]) am_cc1 rfl rfl dc267_8.1.1.2 ?_
  refine am_s_goto rfl dc267_8.1.2.1 ?_
  exact q
-- beginOf (IIII)I
theorem v268_0 {sc : Option (Nat × (Nat → Int32))} {d k n : Nat} {P : am_O → Prop} {I : am_I} {J : am_J} {Pf : am_R} (hp : am_PF Pf) {x1 : Int32} {x2 : Int32} {x3 : Int32} {x4 : Int32} (q : (if x3 = 0 then (P (.inl (some (.int x4)), (am_SH, I, J, Pf), k, n)) else (am_in ((32 + (3 * x2)) + 1) 1040 = true) ∧ (if (I 167 (Int32.toNatClampNeg ((32 + (3 * x2)) + 1))) = 0 then (P (.inl (some (.int x4)), (am_SH, I, J, Pf), k, n)) else (am_mth d 258 [.ref 163, .int x1, .int x4] (am_SH, I, J, Pf) (am_af sc d 268 29 [some (.ref 163), some (.int x1), some (.int x2), some (.int x3), some (.int x4)] [.int x4, .int x1, .ref 163] [] (am_SH, I, J, Pf) k n true P))))) : am_go sc d 268 (0, [some (.ref 163), some (.int x1), some (.int x2), some (.int x3), some (.int x4)], [], (am_SH, I, J, Pf), k, n) P := by
  refine am_s_iload_n rfl dc268_0.1.1.1 ?_
  refine am_s_if_eq dc268_0.1.1.2 rfl (fun c1 => ?_) (fun c1 => ?_)
  · refine am_s_iload rfl dc268_1.2.1.2 ?_
    refine am_s_goto rfl dc268_1.2.2.1 ?_
    exact am_s_ireturn dc268_2.2.2 rfl ((vi_t q c1))
  · refine am_s_aload_n rfl dc268_0.1.2.1 ?_
    refine am_s_getR (r := 167) dc268_0.1.2.2 rfl rfl rfl (hp _ _ _ rfl) ?_
    refine am_s_bipush am_cb32 dc268_0.2.1.1 ?_
    refine am_s_iconst am_cc3 dc268_0.2.1.2 ?_
    refine am_s_iload_n rfl dc268_0.2.2.1 ?_
    refine am_s_imul dc268_0.2.2.2 ?_
    refine am_s_iadd dc268_1.1.1.1 ?_
    refine am_s_iconst am_cc1 dc268_1.1.1.2 ?_
    refine am_s_iadd dc268_1.1.2.1 ?_
    refine am_x_iaload (x := I 167 (Int32.toNatClampNeg ((32 + (3 * x2)) + 1))) dc268_1.1.2.2 rfl ((vi_f q c1).1) rfl rfl ?_
    refine am_s_if_ne dc268_1.2.1.1 rfl (fun c2 => ?_) (fun c2 => ?_)
    · refine am_s_aload_n rfl dc268_1.2.2.2 ?_
      refine am_s_iload_n rfl dc268_2.1.1 ?_
      refine am_s_iload rfl dc268_2.1.2 ?_
      exact am_s_virtual true dc268_2.2.1 rfl (by decide) rfl rfl rfl ((vi_f (vi_f q c1).2 c2))
    · refine am_s_iload rfl dc268_1.2.1.2 ?_
      refine am_s_goto rfl dc268_1.2.2.1 ?_
      exact am_s_ireturn dc268_2.2.2 rfl ((vi_t (vi_f q c1).2 (Decidable.not_not.mp c2)))
theorem v268_32 {sc : Option (Nat × (Nat → Int32))} {d k n : Nat} {P : am_O → Prop} {I : am_I} {J : am_J} {Pf : am_R} (hp : am_PF Pf) {l0 : Option Value} {l1 : Option Value} {l2 : Option Value} {l3 : Option Value} {l4 : Option Value} {s0 : Int32} (q : (P (.inl (some (.int s0)), (am_SH, I, J, Pf), k, n))) : am_go sc d 268 (32, [l0, l1, l2, l3, l4], [.int s0], (am_SH, I, J, Pf), k, n) P := by
  exact am_s_ireturn dc268_2.2.2 rfl (q)
-- endOf (III)I
theorem v269_0 {sc : Option (Nat × (Nat → Int32))} {d k n : Nat} {P : am_O → Prop} {I : am_I} {J : am_J} {Pf : am_R} (hp : am_PF Pf) {x1 : Int32} {x2 : Int32} {x3 : Int32} {l4 : Option Value} {l5 : Option Value} (q : (am_in x2 1040 = true) ∧ (if (I 167 (Int32.toNatClampNeg x2)) = 0 then (am_in (25 * x1) 125 = true) ∧ (if (I 183 (Int32.toNatClampNeg (25 * x1))) ≤ x3 then (P (.inl (some (.int (-1))), (am_SH, I, J, Pf), k, n)) else (am_in (x2 + 1) 1040 = true) ∧ (am_in (((25 * x1) + 1) + x3) 125 = true) ∧ (am_in ((8 + (3 * (I 167 (Int32.toNatClampNeg (x2 + 1))))) + (((I 183 (Int32.toNatClampNeg (((25 * x1) + 1) + x3))) - 32) / 32)) 1040 = true) ∧ (if (((I 167 (Int32.toNatClampNeg ((8 + (3 * (I 167 (Int32.toNatClampNeg (x2 + 1))))) + (((I 183 (Int32.toNatClampNeg (((25 * x1) + 1) + x3))) - 32) / 32)))) >>> ((((I 183 (Int32.toNatClampNeg (((25 * x1) + 1) + x3))) - 32) - ((I 183 (Int32.toNatClampNeg (((25 * x1) + 1) + x3))) - 32) / 32 * 32) &&& 31)) &&& 1) = 1 then (P (.inl (some (.int (x3 + 1))), (am_SH, I, J, Pf), k, n)) else (P (.inl (some (.int (-1))), (am_SH, I, J, Pf), k, n)))) else (am_in (x2 + 2) 1040 = true) ∧ (am_in (25 * x1) 125 = true) ∧ (if (x3 + (I 167 (Int32.toNatClampNeg (x2 + 2)))) ≤ (I 183 (Int32.toNatClampNeg (25 * x1))) then (am_go sc (d + 1) 269 (78, [some (.ref 163), some (.int x1), some (.int x2), some (.int x3), some (.int (I 167 (Int32.toNatClampNeg (x2 + 2)))), some (.int 0)], [], (am_SH, I, J, Pf), k, n) P) else (P (.inl (some (.int (-1))), (am_SH, I, J, Pf), k, n))))) : am_go sc (d + 1) 269 (0, [some (.ref 163), some (.int x1), some (.int x2), some (.int x3), l4, l5], [], (am_SH, I, J, Pf), k, n) P := by
  refine am_s_aload_n rfl dc269_0.1.1.1 ?_
  refine am_s_getR (r := 167) dc269_0.1.1.2 rfl rfl rfl (hp _ _ _ rfl) ?_
  refine am_s_iload_n rfl dc269_0.1.2.1 ?_
  refine am_x_iaload (x := I 167 (Int32.toNatClampNeg x2)) dc269_0.1.2.2 rfl (q.1) rfl rfl ?_
  refine am_s_if_ne dc269_0.2.1.1 rfl (fun c1 => ?_) (fun c1 => ?_)
  · refine am_s_aload_n rfl dc269_3.2.2.2 ?_
    refine am_s_getR (r := 167) dc269_4.1.1.1 rfl rfl rfl (hp _ _ _ rfl) ?_
    refine am_s_iload_n rfl dc269_4.1.1.2 ?_
    refine am_s_iconst am_cc2 dc269_4.1.2.1 ?_
    refine am_s_iadd dc269_4.1.2.2 ?_
    refine am_x_iaload (x := I 167 (Int32.toNatClampNeg (x2 + 2))) dc269_4.2.1.1 rfl ((vi_f q.2 c1).1) rfl rfl ?_
    refine am_s_istore (ls' := [some (.ref 163), some (.int x1), some (.int x2), some (.int x3), some (.int (I 167 (Int32.toNatClampNeg (x2 + 2)))), l5]) rfl rfl dc269_4.2.1.2 ?_
    refine am_s_iload_n rfl dc269_4.2.2.1 ?_
    refine am_s_iload rfl dc269_4.2.2.2 ?_
    refine am_s_iadd dc269_5.1.1.1 ?_
    refine am_s_aload_n rfl dc269_5.1.1.2 ?_
    refine am_s_iload_n rfl dc269_5.1.2.1 ?_
    refine am_s_virtual true dc269_5.1.2.2 rfl (by decide) rfl rfl rfl (am_mth_of rfl rfl ?_)
    refine am_s_aload_n rfl dc254_0.1.1 ?_
    refine am_s_getR (r := 183) dc254_0.1.2.1 rfl rfl rfl (hp _ _ _ rfl) ?_
    refine am_s_bipush am_cb25 dc254_0.1.2.2 ?_
    refine am_s_iload_n rfl dc254_0.2.1.1 ?_
    refine am_s_imul dc254_0.2.1.2 ?_
    refine am_x_iaload (x := I 183 (Int32.toNatClampNeg (25 * x1))) dc254_0.2.2.1 rfl ((vi_f q.2 c1).2.1) rfl rfl ?_
    refine am_s_ireturn dc254_0.2.2.2 rfl (am_bkI ?_)
    refine am_s_ic_le dc269_5.2.1.1 rfl (fun c2 => ?_) (fun c2 => ?_)
    · refine am_s_iconst am_cc0 dc269_5.2.2.2 ?_
      refine am_s_istore (ls' := [some (.ref 163), some (.int x1), some (.int x2), some (.int x3), some (.int (I 167 (Int32.toNatClampNeg (x2 + 2)))), some (.int 0)]) rfl rfl dc269_6.1.1.1 ?_
      exact (vi_t (vi_f q.2 c1).2.2 c2)
    · refine am_s_iconst am_ccm1 dc269_5.2.1.2 ?_
      exact am_s_ireturn dc269_5.2.2.1 rfl ((vi_f (vi_f q.2 c1).2.2 c2))
  · refine am_s_iload_n rfl dc269_0.2.1.2 ?_
    refine am_s_aload_n rfl dc269_0.2.2.1 ?_
    refine am_s_iload_n rfl dc269_0.2.2.2 ?_
    refine am_s_virtual true dc269_1.1.1.1 rfl (by decide) rfl rfl rfl (am_mth_of rfl rfl ?_)
    refine am_s_aload_n rfl dc254_0.1.1 ?_
    refine am_s_getR (r := 183) dc254_0.1.2.1 rfl rfl rfl (hp _ _ _ rfl) ?_
    refine am_s_bipush am_cb25 dc254_0.1.2.2 ?_
    refine am_s_iload_n rfl dc254_0.2.1.1 ?_
    refine am_s_imul dc254_0.2.1.2 ?_
    refine am_x_iaload (x := I 183 (Int32.toNatClampNeg (25 * x1))) dc254_0.2.2.1 rfl ((vi_t q.2 (Decidable.not_not.mp c1)).1) rfl rfl ?_
    refine am_s_ireturn dc254_0.2.2.2 rfl (am_bkI ?_)
    refine am_s_ic_ge dc269_1.1.1.2 rfl (fun c2 => ?_) (fun c2 => ?_)
    · refine am_s_iconst am_ccm1 dc269_3.2.1.2 ?_
      exact am_s_ireturn dc269_3.2.2.1 rfl ((vi_t (vi_t q.2 (Decidable.not_not.mp c1)).2 c2))
    · refine am_s_aload_n rfl dc269_1.1.2.1 ?_
      refine am_s_aload_n rfl dc269_1.1.2.2 ?_
      refine am_s_getR (r := 167) dc269_1.2.1.1 rfl rfl rfl (hp _ _ _ rfl) ?_
      refine am_s_aload_n rfl dc269_1.2.1.2 ?_
      refine am_s_getR (r := 167) dc269_1.2.2.1 rfl rfl rfl (hp _ _ _ rfl) ?_
      refine am_s_iload_n rfl dc269_1.2.2.2 ?_
      refine am_s_iconst am_cc1 dc269_2.1.1.1 ?_
      refine am_s_iadd dc269_2.1.1.2 ?_
      refine am_x_iaload (x := I 167 (Int32.toNatClampNeg (x2 + 1))) dc269_2.1.2.1 rfl ((vi_f (vi_t q.2 (Decidable.not_not.mp c1)).2 c2).1) rfl rfl ?_
      refine am_s_aload_n rfl dc269_2.1.2.2 ?_
      refine am_s_iload_n rfl dc269_2.2.1.1 ?_
      refine am_s_iload_n rfl dc269_2.2.1.2 ?_
      refine am_s_virtual true dc269_2.2.2.1 rfl (by decide) rfl rfl rfl (am_mth_of rfl rfl ?_)
      refine am_s_aload_n rfl dc255_0.1.1.1 ?_
      refine am_s_getR (r := 183) dc255_0.1.1.2 rfl rfl rfl (hp _ _ _ rfl) ?_
      refine am_s_bipush am_cb25 dc255_0.1.2.1 ?_
      refine am_s_iload_n rfl dc255_0.1.2.2 ?_
      refine am_s_imul dc255_0.2.1.1 ?_
      refine am_s_iconst am_cc1 dc255_0.2.1.2 ?_
      refine am_s_iadd dc255_0.2.2.1 ?_
      refine am_s_iload_n rfl dc255_0.2.2.2 ?_
      refine am_s_iadd dc255_1.1 ?_
      refine am_x_iaload (x := I 183 (Int32.toNatClampNeg (((25 * x1) + 1) + x3))) dc255_1.2.1 rfl ((vi_f (vi_t q.2 (Decidable.not_not.mp c1)).2 c2).2.1) rfl rfl ?_
      refine am_s_ireturn dc255_1.2.2 rfl (am_bkI ?_)
      refine am_s_virtual true dc269_2.2.2.2 rfl (by decide) rfl rfl rfl (am_mth_of rfl rfl ?_)
      refine am_s_iload_n rfl dc221_0.1.1.1 ?_
      refine am_s_bipush am_cb32 dc221_0.1.1.2 ?_
      refine am_s_isub dc221_0.1.2.1 ?_
      refine am_s_istore (ls' := [some (.ref 163), some (.ref 167), some (.int (I 167 (Int32.toNatClampNeg (x2 + 1)))), some (.int (I 183 (Int32.toNatClampNeg (((25 * x1) + 1) + x3)))), some (.int ((I 183 (Int32.toNatClampNeg (((25 * x1) + 1) + x3))) - 32))]) rfl rfl dc221_0.1.2.2 ?_
      refine am_s_aload_n rfl dc221_0.2.1.1 ?_
      refine am_s_bipush am_cb8 dc221_0.2.1.2 ?_
      refine am_s_iconst am_cc3 dc221_0.2.2.1 ?_
      refine am_s_iload_n rfl dc221_0.2.2.2 ?_
      refine am_s_imul dc221_1.1.1.1 ?_
      refine am_s_iadd dc221_1.1.1.2 ?_
      refine am_s_iload rfl dc221_1.1.2.1 ?_
      refine am_s_bipush am_cb32 dc221_1.1.2.2 ?_
      refine am_s_idiv (by decide) dc221_1.2.1.1 ?_
      refine am_s_iadd dc221_1.2.1.2 ?_
      refine am_x_iaload (x := I 167 (Int32.toNatClampNeg ((8 + (3 * (I 167 (Int32.toNatClampNeg (x2 + 1))))) + (((I 183 (Int32.toNatClampNeg (((25 * x1) + 1) + x3))) - 32) / 32)))) dc221_1.2.2.1 rfl ((vi_f (vi_t q.2 (Decidable.not_not.mp c1)).2 c2).2.2.1) rfl rfl ?_
      refine am_s_iload rfl dc221_1.2.2.2 ?_
      refine am_s_bipush am_cb32 dc221_2.1.1.1 ?_
      refine am_s_irem (by decide) dc221_2.1.1.2 ?_
      refine am_s_ishr dc221_2.1.2.1 ?_
      refine am_s_iconst am_cc1 dc221_2.1.2.2 ?_
      refine am_s_iand dc221_2.2.1.1 ?_
      refine am_s_iconst am_cc1 dc221_2.2.1.2 ?_
      refine am_s_ic_ne dc221_2.2.2.1 rfl (fun c3 => ?_) (fun c3 => ?_)
      · refine am_s_iconst am_cc0 dc221_3.2.1 ?_
        refine am_s_zreturn dc221_3.2.2 rfl (by decide) (am_bkI ?_)
        refine am_s_if_eq dc269_3.1.1.1 rfl (fun _ => ?_) (fun z => absurd z (by decide))
        refine am_s_iconst am_ccm1 dc269_3.2.1.2 ?_
        exact am_s_ireturn dc269_3.2.2.1 rfl ((vi_f (vi_f (vi_t q.2 (Decidable.not_not.mp c1)).2 c2).2.2.2 c3))
      · refine am_s_iconst am_cc1 dc221_2.2.2.2 ?_
        refine am_s_goto rfl dc221_3.1 ?_
        refine am_s_zreturn dc221_3.2.2 rfl (by decide) (am_bkI ?_)
        refine am_s_if_eq dc269_3.1.1.1 rfl (fun z => absurd z (by decide)) (fun _ => ?_)
        refine am_s_iload_n rfl dc269_3.1.1.2 ?_
        refine am_s_iconst am_cc1 dc269_3.1.2.1 ?_
        refine am_s_iadd dc269_3.1.2.2 ?_
        refine am_s_goto rfl dc269_3.2.1.1 ?_
        exact am_s_ireturn dc269_3.2.2.1 rfl ((vi_t (vi_f (vi_t q.2 (Decidable.not_not.mp c1)).2 c2).2.2.2 (Decidable.not_not.mp c3)))
theorem v269_78 {sc : Option (Nat × (Nat → Int32))} {d k n : Nat} {P : am_O → Prop} {I : am_I} {J : am_J} {Pf : am_R} (hp : am_PF Pf) {x1 : Int32} {x2 : Int32} {x3 : Int32} {x4 : Int32} {x5 : Int32} (q : (if x4 ≤ x5 then (P (.inl (some (.int (x3 + x4))), (am_SH, I, J, Pf), k, n)) else (am_in (((25 * x1) + 1) + (x3 + x5)) 125 = true) ∧ (am_in ((x2 + 3) + x5) 1040 = true) ∧ (if (I 183 (Int32.toNatClampNeg (((25 * x1) + 1) + (x3 + x5)))) = (I 167 (Int32.toNatClampNeg ((x2 + 3) + x5))) then (am_go sc (d + 1) 269 (78, [some (.ref 163), some (.int x1), some (.int x2), some (.int x3), some (.int x4), some (.int (x5 + 1))], [], (am_SH, I, J, Pf), k, n) P) else (P (.inl (some (.int (-1))), (am_SH, I, J, Pf), k, n))))) : am_go sc (d + 1) 269 (78, [some (.ref 163), some (.int x1), some (.int x2), some (.int x3), some (.int x4), some (.int x5)], [], (am_SH, I, J, Pf), k, n) P := by
  refine am_s_iload rfl dc269_6.1.1.2 ?_
  refine am_s_iload rfl dc269_6.1.2.1 ?_
  refine am_s_ic_ge dc269_6.1.2.2 rfl (fun c1 => ?_) (fun c1 => ?_)
  · refine am_s_iload_n rfl dc269_8.2.2.2 ?_
    refine am_s_iload rfl dc269_9.1 ?_
    refine am_s_iadd dc269_9.2.1 ?_
    exact am_s_ireturn dc269_9.2.2 rfl ((vi_t q c1))
  · refine am_s_aload_n rfl dc269_6.2.1.1 ?_
    refine am_s_iload_n rfl dc269_6.2.1.2 ?_
    refine am_s_iload_n rfl dc269_6.2.2.1 ?_
    refine am_s_iload rfl dc269_6.2.2.2 ?_
    refine am_s_iadd dc269_7.1.1.1 ?_
    refine am_s_virtual true dc269_7.1.1.2 rfl (by decide) rfl rfl rfl (am_mth_of rfl rfl ?_)
    refine am_s_aload_n rfl dc255_0.1.1.1 ?_
    refine am_s_getR (r := 183) dc255_0.1.1.2 rfl rfl rfl (hp _ _ _ rfl) ?_
    refine am_s_bipush am_cb25 dc255_0.1.2.1 ?_
    refine am_s_iload_n rfl dc255_0.1.2.2 ?_
    refine am_s_imul dc255_0.2.1.1 ?_
    refine am_s_iconst am_cc1 dc255_0.2.1.2 ?_
    refine am_s_iadd dc255_0.2.2.1 ?_
    refine am_s_iload_n rfl dc255_0.2.2.2 ?_
    refine am_s_iadd dc255_1.1 ?_
    refine am_x_iaload (x := I 183 (Int32.toNatClampNeg (((25 * x1) + 1) + (x3 + x5)))) dc255_1.2.1 rfl ((vi_f q c1).1) rfl rfl ?_
    refine am_s_ireturn dc255_1.2.2 rfl (am_bkI ?_)
    refine am_s_aload_n rfl dc269_7.1.2.1 ?_
    refine am_s_getR (r := 167) dc269_7.1.2.2 rfl rfl rfl (hp _ _ _ rfl) ?_
    refine am_s_iload_n rfl dc269_7.2.1.1 ?_
    refine am_s_iconst am_cc3 dc269_7.2.1.2 ?_
    refine am_s_iadd dc269_7.2.2.1 ?_
    refine am_s_iload rfl dc269_7.2.2.2 ?_
    refine am_s_iadd dc269_8.1.1.1 ?_
    refine am_x_iaload (x := I 167 (Int32.toNatClampNeg ((x2 + 3) + x5))) dc269_8.1.1.2 rfl ((vi_f q c1).2.1) rfl rfl ?_
    refine am_s_ic_eq dc269_8.1.2.1 rfl (fun c2 => ?_) (fun c2 => ?_)
    · refine am_s_iinc (ls' := [some (.ref 163), some (.int x1), some (.int x2), some (.int x3), some (.int x4), some (.int (x5 + 1))]) am_cc1 rfl rfl dc269_8.2.1.2 ?_
      refine am_s_goto rfl dc269_8.2.2.1 ?_
      exact (vi_t (vi_f q c1).2.2 c2)
    · refine am_s_iconst am_ccm1 dc269_8.1.2.2 ?_
      exact am_s_ireturn dc269_8.2.1.1 rfl ((vi_f (vi_f q c1).2.2 c2))
-- goesPart (IIIII)V
theorem v270_0 {sc : Option (Nat × (Nat → Int32))} {d k n : Nat} {P : am_O → Prop} {I : am_I} {J : am_J} {Pf : am_R} (hp : am_PF Pf) {x1 : Int32} {x2 : Int32} {x3 : Int32} {x4 : Int32} {x5 : Int32} {l6 : Option Value} {l7 : Option Value} {l8 : Option Value} {l9 : Option Value} {l10 : Option Value} (q : (am_mth d 268 [.ref 163, .int x1, .int x2, .int x3, .int x4] (am_SH, I, J, Pf) (am_af sc d 270 19 [some (.ref 163), some (.int x1), some (.int x2), some (.int x3), some (.int x4), some (.int x5), some (.int (92 + (((4 * x2) + x3) * 11))), l7, l8, l9, l10] [.int x4, .int x3, .int x2, .int x1, .ref 163] [] (am_SH, I, J, Pf) k n true P))) : am_go sc d 270 (0, [some (.ref 163), some (.int x1), some (.int x2), some (.int x3), some (.int x4), some (.int x5), l6, l7, l8, l9, l10], [], (am_SH, I, J, Pf), k, n) P := by
  refine am_s_bipush am_cb92 dc270_0.1.1.1 ?_
  refine am_s_iconst am_cc4 dc270_0.1.1.2 ?_
  refine am_s_iload_n rfl dc270_0.1.2.1 ?_
  refine am_s_imul dc270_0.1.2.2 ?_
  refine am_s_iload_n rfl dc270_0.2.1.1 ?_
  refine am_s_iadd dc270_0.2.1.2 ?_
  refine am_s_bipush am_cb11 dc270_0.2.2.1 ?_
  refine am_s_imul dc270_0.2.2.2 ?_
  refine am_s_iadd dc270_1.1.1.1 ?_
  refine am_s_istore (ls' := [some (.ref 163), some (.int x1), some (.int x2), some (.int x3), some (.int x4), some (.int x5), some (.int (92 + (((4 * x2) + x3) * 11))), l7, l8, l9, l10]) rfl rfl dc270_1.1.1.2 ?_
  refine am_s_aload_n rfl dc270_1.1.2.1 ?_
  refine am_s_iload_n rfl dc270_1.1.2.2 ?_
  refine am_s_iload_n rfl dc270_1.2.1.1 ?_
  refine am_s_iload_n rfl dc270_1.2.1.2 ?_
  refine am_s_iload rfl dc270_1.2.2.1 ?_
  exact am_s_virtual true dc270_1.2.2.2 rfl (by decide) rfl rfl rfl (q)
theorem v270_88 {sc : Option (Nat × (Nat → Int32))} {d k n : Nat} {P : am_O → Prop} {I : am_I} {J : am_J} {Pf : am_R} (hp : am_PF Pf) {x1 : Int32} {l2 : Option Value} {l3 : Option Value} {l4 : Option Value} {x5 : Int32} {x6 : Int32} {x7 : Int32} {x8 : Int32} {l9 : Option Value} {l10 : Option Value} (q : (am_in (25 * x1) 125 = true) ∧ (if (I 183 (Int32.toNatClampNeg (25 * x1))) < x8 then (P (.inl none, (am_SH, I, J, Pf), k, n)) else (am_in (x6 + 1) 1040 = true) ∧ (am_in (((((x1 * 8) + (I 167 (Int32.toNatClampNeg (x6 + 1)))) * 625) + (x7 * 25)) + x8) 20000 = true) ∧ (if (I 184 (Int32.toNatClampNeg (((((x1 * 8) + (I 167 (Int32.toNatClampNeg (x6 + 1)))) * 625) + (x7 * 25)) + x8))) = 0 then (am_go sc (d + 1) 270 (88, [some (.ref 163), some (.int x1), l2, l3, l4, some (.int x5), some (.int x6), some (.int x7), some (.int (x8 + 1)), some (.int (I 184 (Int32.toNatClampNeg (((((x1 * 8) + (I 167 (Int32.toNatClampNeg (x6 + 1)))) * 625) + (x7 * 25)) + x8)))), l10], [], (am_SH, I, J, Pf), k, n) P) else (if ((I 184 (Int32.toNatClampNeg (((((x1 * 8) + (I 167 (Int32.toNatClampNeg (x6 + 1)))) * 625) + (x7 * 25)) + x8))) + 1) ≤ x5 then (am_in x8 25 = true) ∧ (if (I 189 (Int32.toNatClampNeg x8)) = 0 then (am_go sc (d + 1) 270 (172, [some (.ref 163), some (.int x1), l2, l3, l4, some (.int x5), some (.int x6), some (.int x7), some (.int x8), some (.int (I 184 (Int32.toNatClampNeg (((((x1 * 8) + (I 167 (Int32.toNatClampNeg (x6 + 1)))) * 625) + (x7 * 25)) + x8)))), some (.int x5)], [], (am_SH, I, J, Pf), k, n) P) else (am_in x8 25 = true) ∧ (if (I 189 (Int32.toNatClampNeg x8)) ≤ x5 then (am_go sc (d + 1) 270 (88, [some (.ref 163), some (.int x1), l2, l3, l4, some (.int x5), some (.int x6), some (.int x7), some (.int (x8 + 1)), some (.int (I 184 (Int32.toNatClampNeg (((((x1 * 8) + (I 167 (Int32.toNatClampNeg (x6 + 1)))) * 625) + (x7 * 25)) + x8)))), some (.int x5)], [], (am_SH, I, J, Pf), k, n) P) else (am_go sc (d + 1) 270 (172, [some (.ref 163), some (.int x1), l2, l3, l4, some (.int x5), some (.int x6), some (.int x7), some (.int x8), some (.int (I 184 (Int32.toNatClampNeg (((((x1 * 8) + (I 167 (Int32.toNatClampNeg (x6 + 1)))) * 625) + (x7 * 25)) + x8)))), some (.int x5)], [], (am_SH, I, J, Pf), k, n) P))) else (am_in x8 25 = true) ∧ (if (I 189 (Int32.toNatClampNeg x8)) = 0 then (am_go sc (d + 1) 270 (172, [some (.ref 163), some (.int x1), l2, l3, l4, some (.int x5), some (.int x6), some (.int x7), some (.int x8), some (.int (I 184 (Int32.toNatClampNeg (((((x1 * 8) + (I 167 (Int32.toNatClampNeg (x6 + 1)))) * 625) + (x7 * 25)) + x8)))), some (.int ((I 184 (Int32.toNatClampNeg (((((x1 * 8) + (I 167 (Int32.toNatClampNeg (x6 + 1)))) * 625) + (x7 * 25)) + x8))) + 1))], [], (am_SH, I, J, Pf), k, n) P) else (am_in x8 25 = true) ∧ (if (I 189 (Int32.toNatClampNeg x8)) ≤ ((I 184 (Int32.toNatClampNeg (((((x1 * 8) + (I 167 (Int32.toNatClampNeg (x6 + 1)))) * 625) + (x7 * 25)) + x8))) + 1) then (am_go sc (d + 1) 270 (88, [some (.ref 163), some (.int x1), l2, l3, l4, some (.int x5), some (.int x6), some (.int x7), some (.int (x8 + 1)), some (.int (I 184 (Int32.toNatClampNeg (((((x1 * 8) + (I 167 (Int32.toNatClampNeg (x6 + 1)))) * 625) + (x7 * 25)) + x8)))), some (.int ((I 184 (Int32.toNatClampNeg (((((x1 * 8) + (I 167 (Int32.toNatClampNeg (x6 + 1)))) * 625) + (x7 * 25)) + x8))) + 1))], [], (am_SH, I, J, Pf), k, n) P) else (am_go sc (d + 1) 270 (172, [some (.ref 163), some (.int x1), l2, l3, l4, some (.int x5), some (.int x6), some (.int x7), some (.int x8), some (.int (I 184 (Int32.toNatClampNeg (((((x1 * 8) + (I 167 (Int32.toNatClampNeg (x6 + 1)))) * 625) + (x7 * 25)) + x8)))), some (.int ((I 184 (Int32.toNatClampNeg (((((x1 * 8) + (I 167 (Int32.toNatClampNeg (x6 + 1)))) * 625) + (x7 * 25)) + x8))) + 1))], [], (am_SH, I, J, Pf), k, n) P))))))) : am_go sc (d + 1) 270 (88, [some (.ref 163), some (.int x1), l2, l3, l4, some (.int x5), some (.int x6), some (.int x7), some (.int x8), l9, l10], [], (am_SH, I, J, Pf), k, n) P := by
  refine am_s_iload rfl dc270_6.1.2.2 ?_
  refine am_s_aload_n rfl dc270_6.2.1.1 ?_
  refine am_s_iload_n rfl dc270_6.2.1.2 ?_
  refine am_s_virtual true dc270_6.2.2.1 rfl (by decide) rfl rfl rfl (am_mth_of rfl rfl ?_)
  refine am_s_aload_n rfl dc254_0.1.1 ?_
  refine am_s_getR (r := 183) dc254_0.1.2.1 rfl rfl rfl (hp _ _ _ rfl) ?_
  refine am_s_bipush am_cb25 dc254_0.1.2.2 ?_
  refine am_s_iload_n rfl dc254_0.2.1.1 ?_
  refine am_s_imul dc254_0.2.1.2 ?_
  refine am_x_iaload (x := I 183 (Int32.toNatClampNeg (25 * x1))) dc254_0.2.2.1 rfl (q.1) rfl rfl ?_
  refine am_s_ireturn dc254_0.2.2.2 rfl (am_bkI ?_)
  refine am_s_ic_gt dc270_6.2.2.2 rfl (fun c1 => ?_) (fun c1 => ?_)
  · exact am_s_return dc270_12.2.2.2 rfl ((vi_t q.2 c1))
  · refine am_s_aload_n rfl dc270_7.1.1.1 ?_
    refine am_s_getR (r := 184) dc270_7.1.1.2 rfl rfl rfl (hp _ _ _ rfl) ?_
    refine am_s_iload_n rfl dc270_7.1.2.1 ?_
    refine am_s_aload_n rfl dc270_7.1.2.2 ?_
    refine am_s_getR (r := 167) dc270_7.2.1.1 rfl rfl rfl (hp _ _ _ rfl) ?_
    refine am_s_iload rfl dc270_7.2.1.2 ?_
    refine am_s_iconst am_cc1 dc270_7.2.2.1 ?_
    refine am_s_iadd dc270_7.2.2.2 ?_
    refine am_x_iaload (x := I 167 (Int32.toNatClampNeg (x6 + 1))) dc270_8.1.1.1 rfl ((vi_f q.2 c1).1) rfl rfl ?_
    refine am_s_iload rfl dc270_8.1.1.2 ?_
    refine am_s_iload rfl dc270_8.1.2.1 ?_
    refine am_s_static dc270_8.1.2.2 rfl rfl rfl (am_mth_of rfl rfl ?_)
    refine am_s_iload_n rfl dc256_0.1.1.1 ?_
    refine am_s_bipush am_cb8 dc256_0.1.1.2 ?_
    refine am_s_imul dc256_0.1.2.1 ?_
    refine am_s_iload_n rfl dc256_0.1.2.2 ?_
    refine am_s_iadd dc256_0.2.1.1 ?_
    refine am_s_sipush am_cs625 dc256_0.2.1.2 ?_
    refine am_s_imul dc256_0.2.2.1 ?_
    refine am_s_iload_n rfl dc256_0.2.2.2 ?_
    refine am_s_bipush am_cb25 dc256_1.1.1 ?_
    refine am_s_imul dc256_1.1.2.1 ?_
    refine am_s_iadd dc256_1.1.2.2 ?_
    refine am_s_iload_n rfl dc256_1.2.1 ?_
    refine am_s_iadd dc256_1.2.2.1 ?_
    refine am_s_ireturn dc256_1.2.2.2 rfl (am_bkI ?_)
    refine am_x_iaload (x := I 184 (Int32.toNatClampNeg (((((x1 * 8) + (I 167 (Int32.toNatClampNeg (x6 + 1)))) * 625) + (x7 * 25)) + x8))) dc270_8.2.1.1 rfl ((vi_f q.2 c1).2.1) rfl rfl ?_
    refine am_s_istore (ls' := [some (.ref 163), some (.int x1), l2, l3, l4, some (.int x5), some (.int x6), some (.int x7), some (.int x8), some (.int (I 184 (Int32.toNatClampNeg (((((x1 * 8) + (I 167 (Int32.toNatClampNeg (x6 + 1)))) * 625) + (x7 * 25)) + x8)))), l10]) rfl rfl dc270_8.2.1.2 ?_
    refine am_s_iload rfl dc270_8.2.2.1 ?_
    refine am_s_if_ne dc270_8.2.2.2 rfl (fun c2 => ?_) (fun c2 => ?_)
    · refine am_s_iload rfl dc270_9.1.1.2 ?_
      refine am_s_iconst am_cc1 dc270_9.1.2.1 ?_
      refine am_s_iadd dc270_9.1.2.2 ?_
      refine am_s_iload rfl dc270_9.2.1.1 ?_
      refine am_s_ic_le dc270_9.2.1.2 rfl (fun c3 => ?_) (fun c3 => ?_)
      · refine am_s_iload rfl dc270_10.1.2.1 ?_
        refine am_s_istore (ls' := [some (.ref 163), some (.int x1), l2, l3, l4, some (.int x5), some (.int x6), some (.int x7), some (.int x8), some (.int (I 184 (Int32.toNatClampNeg (((((x1 * 8) + (I 167 (Int32.toNatClampNeg (x6 + 1)))) * 625) + (x7 * 25)) + x8)))), some (.int x5)]) rfl rfl dc270_10.1.2.2 ?_
        refine am_s_aload_n rfl dc270_10.2.1.1 ?_
        refine am_s_getR (r := 189) dc270_10.2.1.2 rfl rfl rfl (hp _ _ _ rfl) ?_
        refine am_s_iload rfl dc270_10.2.2.1 ?_
        refine am_x_iaload (x := I 189 (Int32.toNatClampNeg x8)) dc270_10.2.2.2 rfl ((vi_t (vi_f (vi_f q.2 c1).2.2 c2) c3).1) rfl rfl ?_
        refine am_s_if_eq dc270_11.1.1.1 rfl (fun c4 => ?_) (fun c4 => ?_)
        · exact (vi_t (vi_t (vi_f (vi_f q.2 c1).2.2 c2) c3).2 c4)
        · refine am_s_iload rfl dc270_11.1.1.2 ?_
          refine am_s_aload_n rfl dc270_11.1.2.1 ?_
          refine am_s_getR (r := 189) dc270_11.1.2.2 rfl rfl rfl (hp _ _ _ rfl) ?_
          refine am_s_iload rfl dc270_11.2.1.1 ?_
          refine am_x_iaload (x := I 189 (Int32.toNatClampNeg x8)) dc270_11.2.1.2 rfl ((vi_f (vi_t (vi_f (vi_f q.2 c1).2.2 c2) c3).2 c4).1) rfl rfl ?_
          refine am_s_ic_ge dc270_11.2.2.1 rfl (fun c5 => ?_) (fun c5 => ?_)
          · refine am_s_iinc (ls' := [some (.ref 163), some (.int x1), l2, l3, l4, some (.int x5), some (.int x6), some (.int x7), some (.int (x8 + 1)), some (.int (I 184 (Int32.toNatClampNeg (((((x1 * 8) + (I 167 (Int32.toNatClampNeg (x6 + 1)))) * 625) + (x7 * 25)) + x8)))), some (.int x5)]) am_cc1 rfl rfl dc270_12.2.1.2 ?_
            refine am_s_goto rfl dc270_12.2.2.1 ?_
            exact (vi_t (vi_f (vi_t (vi_f (vi_f q.2 c1).2.2 c2) c3).2 c4).2 c5)
          · exact (vi_f (vi_f (vi_t (vi_f (vi_f q.2 c1).2.2 c2) c3).2 c4).2 c5)
      · refine am_s_iload rfl dc270_9.2.2.1 ?_
        refine am_s_iconst am_cc1 dc270_9.2.2.2 ?_
        refine am_s_iadd dc270_10.1.1.1 ?_
        refine am_s_goto rfl dc270_10.1.1.2 ?_
        refine am_s_istore (ls' := [some (.ref 163), some (.int x1), l2, l3, l4, some (.int x5), some (.int x6), some (.int x7), some (.int x8), some (.int (I 184 (Int32.toNatClampNeg (((((x1 * 8) + (I 167 (Int32.toNatClampNeg (x6 + 1)))) * 625) + (x7 * 25)) + x8)))), some (.int ((I 184 (Int32.toNatClampNeg (((((x1 * 8) + (I 167 (Int32.toNatClampNeg (x6 + 1)))) * 625) + (x7 * 25)) + x8))) + 1))]) rfl rfl dc270_10.1.2.2 ?_
        refine am_s_aload_n rfl dc270_10.2.1.1 ?_
        refine am_s_getR (r := 189) dc270_10.2.1.2 rfl rfl rfl (hp _ _ _ rfl) ?_
        refine am_s_iload rfl dc270_10.2.2.1 ?_
        refine am_x_iaload (x := I 189 (Int32.toNatClampNeg x8)) dc270_10.2.2.2 rfl ((vi_f (vi_f (vi_f q.2 c1).2.2 c2) c3).1) rfl rfl ?_
        refine am_s_if_eq dc270_11.1.1.1 rfl (fun c4 => ?_) (fun c4 => ?_)
        · exact (vi_t (vi_f (vi_f (vi_f q.2 c1).2.2 c2) c3).2 c4)
        · refine am_s_iload rfl dc270_11.1.1.2 ?_
          refine am_s_aload_n rfl dc270_11.1.2.1 ?_
          refine am_s_getR (r := 189) dc270_11.1.2.2 rfl rfl rfl (hp _ _ _ rfl) ?_
          refine am_s_iload rfl dc270_11.2.1.1 ?_
          refine am_x_iaload (x := I 189 (Int32.toNatClampNeg x8)) dc270_11.2.1.2 rfl ((vi_f (vi_f (vi_f (vi_f q.2 c1).2.2 c2) c3).2 c4).1) rfl rfl ?_
          refine am_s_ic_ge dc270_11.2.2.1 rfl (fun c5 => ?_) (fun c5 => ?_)
          · refine am_s_iinc (ls' := [some (.ref 163), some (.int x1), l2, l3, l4, some (.int x5), some (.int x6), some (.int x7), some (.int (x8 + 1)), some (.int (I 184 (Int32.toNatClampNeg (((((x1 * 8) + (I 167 (Int32.toNatClampNeg (x6 + 1)))) * 625) + (x7 * 25)) + x8)))), some (.int ((I 184 (Int32.toNatClampNeg (((((x1 * 8) + (I 167 (Int32.toNatClampNeg (x6 + 1)))) * 625) + (x7 * 25)) + x8))) + 1))]) am_cc1 rfl rfl dc270_12.2.1.2 ?_
            refine am_s_goto rfl dc270_12.2.2.1 ?_
            exact (vi_t (vi_f (vi_f (vi_f (vi_f q.2 c1).2.2 c2) c3).2 c4).2 c5)
          · exact (vi_f (vi_f (vi_f (vi_f (vi_f q.2 c1).2.2 c2) c3).2 c4).2 c5)
    · refine am_s_goto rfl dc270_9.1.1.1 ?_
      refine am_s_iinc (ls' := [some (.ref 163), some (.int x1), l2, l3, l4, some (.int x5), some (.int x6), some (.int x7), some (.int (x8 + 1)), some (.int (I 184 (Int32.toNatClampNeg (((((x1 * 8) + (I 167 (Int32.toNatClampNeg (x6 + 1)))) * 625) + (x7 * 25)) + x8)))), l10]) am_cc1 rfl rfl dc270_12.2.1.2 ?_
      refine am_s_goto rfl dc270_12.2.2.1 ?_
      exact (vi_t (vi_f q.2 c1).2.2 (Decidable.not_not.mp c2))
theorem v270_172 {sc : Option (Nat × (Nat → Int32))} {d k n : Nat} {P : am_O → Prop} {I : am_I} {J : am_J} {Pf : am_R} (hp : am_PF Pf) {x1 : Int32} {l2 : Option Value} {l3 : Option Value} {l4 : Option Value} {x5 : Int32} {x6 : Int32} {x7 : Int32} {x8 : Int32} {l9 : Option Value} {x10 : Int32} (q : (am_in x8 25 = true) ∧ (am_go sc d 270 (88, [some (.ref 163), some (.int x1), l2, l3, l4, some (.int x5), some (.int x6), some (.int x7), some (.int (x8 + 1)), l9, some (.int x10)], [], (am_SH, am_u I 189 (Int32.toNatClampNeg x8) x10, J, Pf), k, n) P)) : am_go sc d 270 (172, [some (.ref 163), some (.int x1), l2, l3, l4, some (.int x5), some (.int x6), some (.int x7), some (.int x8), l9, some (.int x10)], [], (am_SH, I, J, Pf), k, n) P := by
  refine am_s_aload_n rfl dc270_11.2.2.2 ?_
  refine am_s_getR (r := 189) dc270_12.1.1 rfl rfl rfl (hp _ _ _ rfl) ?_
  refine am_s_iload rfl dc270_12.1.2.1 ?_
  refine am_s_iload rfl dc270_12.1.2.2 ?_
  refine am_s_iastore dc270_12.2.1.1 rfl (q.1) rfl ?_
  refine am_s_iinc (ls' := [some (.ref 163), some (.int x1), l2, l3, l4, some (.int x5), some (.int x6), some (.int x7), some (.int (x8 + 1)), l9, some (.int x10)]) am_cc1 rfl rfl dc270_12.2.1.2 ?_
  refine am_s_goto rfl dc270_12.2.2.1 ?_
  exact q.2
theorem v270_22 {sc : Option (Nat × (Nat → Int32))} {d k n : Nat} {P : am_O → Prop} {I : am_I} {J : am_J} {Pf : am_R} (hp : am_PF Pf) {x1 : Int32} {l2 : Option Value} {l3 : Option Value} {l4 : Option Value} {x5 : Int32} {x6 : Int32} {l7 : Option Value} {l8 : Option Value} {l9 : Option Value} {l10 : Option Value} {s0 : Int32} (q : (am_in x6 1040 = true) ∧ (if (I 167 (Int32.toNatClampNeg x6)) = 1 then (am_go sc d 270 (88, [some (.ref 163), some (.int x1), l2, l3, l4, some (.int x5), some (.int x6), some (.int s0), some (.int s0), l9, l10], [], (am_SH, I, J, Pf), k, n) P) else (am_mth d 269 [.ref 163, .int x1, .int x6, .int s0] (am_SH, I, J, Pf) (am_af sc d 270 41 [some (.ref 163), some (.int x1), l2, l3, l4, some (.int x5), some (.int x6), some (.int s0), l8, l9, l10] [.int s0, .int x6, .int x1, .ref 163] [] (am_SH, I, J, Pf) k n true P)))) : am_go sc d 270 (22, [some (.ref 163), some (.int x1), l2, l3, l4, some (.int x5), some (.int x6), l7, l8, l9, l10], [.int s0], (am_SH, I, J, Pf), k, n) P := by
  refine am_s_istore (ls' := [some (.ref 163), some (.int x1), l2, l3, l4, some (.int x5), some (.int x6), some (.int s0), l8, l9, l10]) rfl rfl dc270_2.1.1.1 ?_
  refine am_s_aload_n rfl dc270_2.1.1.2 ?_
  refine am_s_getR (r := 167) dc270_2.1.2.1 rfl rfl rfl (hp _ _ _ rfl) ?_
  refine am_s_iload rfl dc270_2.1.2.2 ?_
  refine am_x_iaload (x := I 167 (Int32.toNatClampNeg x6)) dc270_2.2.1.1 rfl (q.1) rfl rfl ?_
  refine am_s_iconst am_cc1 dc270_2.2.1.2 ?_
  refine am_s_ic_eq dc270_2.2.2.1 rfl (fun c1 => ?_) (fun c1 => ?_)
  · refine am_s_iload rfl dc270_6.1.1.2 ?_
    refine am_s_istore (ls' := [some (.ref 163), some (.int x1), l2, l3, l4, some (.int x5), some (.int x6), some (.int s0), some (.int s0), l9, l10]) rfl rfl dc270_6.1.2.1 ?_
    exact (vi_t q.2 c1)
  · refine am_s_aload_n rfl dc270_2.2.2.2 ?_
    refine am_s_iload_n rfl dc270_3.1.1.1 ?_
    refine am_s_iload rfl dc270_3.1.1.2 ?_
    refine am_s_iload rfl dc270_3.1.2.1 ?_
    exact am_s_virtual true dc270_3.1.2.2 rfl (by decide) rfl rfl rfl ((vi_f q.2 c1))
theorem v270_44 {sc : Option (Nat × (Nat → Int32))} {d k n : Nat} {P : am_O → Prop} {I : am_I} {J : am_J} {Pf : am_R} (hp : am_PF Pf) {l1 : Option Value} {l2 : Option Value} {l3 : Option Value} {l4 : Option Value} {x5 : Int32} {l6 : Option Value} {l7 : Option Value} {l8 : Option Value} {l9 : Option Value} {l10 : Option Value} {s0 : Int32} (hl7 : am_k1 l7 = true) (q : (if s0 = (-1) then (P (.inl none, (am_SH, I, J, Pf), k, n)) else (am_in s0 25 = true) ∧ (if (I 189 (Int32.toNatClampNeg s0)) = 0 then (am_in s0 25 = true) ∧ (P (.inl none, (am_SH, am_u I 189 (Int32.toNatClampNeg s0) x5, J, Pf), k, n)) else (am_in s0 25 = true) ∧ (if (I 189 (Int32.toNatClampNeg s0)) ≤ x5 then (P (.inl none, (am_SH, I, J, Pf), k, n)) else (am_in s0 25 = true) ∧ (P (.inl none, (am_SH, am_u I 189 (Int32.toNatClampNeg s0) x5, J, Pf), k, n)))))) : am_go sc d 270 (44, [some (.ref 163), l1, l2, l3, l4, some (.int x5), l6, l7, l8, l9, l10], [.int s0], (am_SH, I, J, Pf), k, n) P := by
  refine am_s_istore (ls' := [some (.ref 163), l1, l2, l3, l4, some (.int x5), l6, l7, some (.int s0), l9, l10]) rfl (am_set1_k (am_kill_x (j := 7) rfl hl7) rfl) dc270_3.2.1.1 ?_
  refine am_s_iload rfl dc270_3.2.1.2 ?_
  refine am_s_iconst am_ccm1 dc270_3.2.2.1 ?_
  refine am_s_ic_eq dc270_3.2.2.2 rfl (fun c1 => ?_) (fun c1 => ?_)
  · exact am_s_return dc270_6.1.1.1 rfl ((vi_t q c1))
  · refine am_s_aload_n rfl dc270_4.1.1.1 ?_
    refine am_s_getR (r := 189) dc270_4.1.1.2 rfl rfl rfl (hp _ _ _ rfl) ?_
    refine am_s_iload rfl dc270_4.1.2.1 ?_
    refine am_x_iaload (x := I 189 (Int32.toNatClampNeg s0)) dc270_4.1.2.2 rfl ((vi_f q c1).1) rfl rfl ?_
    refine am_s_if_eq dc270_4.2.1.1 rfl (fun c2 => ?_) (fun c2 => ?_)
    · refine am_s_aload_n rfl dc270_5.1.2.2 ?_
      refine am_s_getR (r := 189) dc270_5.2.1.1 rfl rfl rfl (hp _ _ _ rfl) ?_
      refine am_s_iload rfl dc270_5.2.1.2 ?_
      refine am_s_iload rfl dc270_5.2.2.1 ?_
      refine am_s_iastore dc270_5.2.2.2 rfl ((vi_t (vi_f q c1).2 c2).1) rfl ?_
      exact am_s_return dc270_6.1.1.1 rfl ((vi_t (vi_f q c1).2 c2).2)
    · refine am_s_iload rfl dc270_4.2.1.2 ?_
      refine am_s_aload_n rfl dc270_4.2.2.1 ?_
      refine am_s_getR (r := 189) dc270_4.2.2.2 rfl rfl rfl (hp _ _ _ rfl) ?_
      refine am_s_iload rfl dc270_5.1.1.1 ?_
      refine am_x_iaload (x := I 189 (Int32.toNatClampNeg s0)) dc270_5.1.1.2 rfl ((vi_f (vi_f q c1).2 c2).1) rfl rfl ?_
      refine am_s_ic_ge dc270_5.1.2.1 rfl (fun c3 => ?_) (fun c3 => ?_)
      · exact am_s_return dc270_6.1.1.1 rfl ((vi_t (vi_f (vi_f q c1).2 c2).2 c3))
      · refine am_s_aload_n rfl dc270_5.1.2.2 ?_
        refine am_s_getR (r := 189) dc270_5.2.1.1 rfl rfl rfl (hp _ _ _ rfl) ?_
        refine am_s_iload rfl dc270_5.2.1.2 ?_
        refine am_s_iload rfl dc270_5.2.2.1 ?_
        refine am_s_iastore dc270_5.2.2.2 rfl ((vi_f (vi_f (vi_f q c1).2 c2).2 c3).1) rfl ?_
        exact am_s_return dc270_6.1.1.1 rfl ((vi_f (vi_f (vi_f q c1).2 c2).2 c3).2)
-- knows ()V
theorem v271_0 {sc : Option (Nat × (Nat → Int32))} {d k n : Nat} {P : am_O → Prop} {I : am_I} {J : am_J} {Pf : am_R} (hp : am_PF Pf) {l1 : Option Value} (q : (if (I 163 46) = 0 then (am_go sc d 271 (10, [some (.ref 163), some (.int 0)], [], (am_SH, I, J, Pf), k, n) P) else (P (.inl none, (am_SH, I, J, Pf), k, n)))) : am_go sc d 271 (0, [some (.ref 163), l1], [], (am_SH, I, J, Pf), k, n) P := by
  refine am_s_aload_n rfl dc271_0.1.1.1 ?_
  refine am_x_getI (x := I 163 46) dc271_0.1.1.2 rfl rfl (Or.inr rfl) rfl ?_
  refine am_s_if_eq dc271_0.1.2.1 rfl (fun c1 => ?_) (fun c1 => ?_)
  · refine am_s_iconst am_cc0 dc271_0.2.1.1 ?_
    refine am_s_istore_n (ls' := [some (.ref 163), some (.int 0)]) rfl rfl dc271_0.2.1.2 ?_
    exact (vi_t q c1)
  · exact am_s_return dc271_0.1.2.2 rfl ((vi_f q c1))
theorem v271_10 {sc : Option (Nat × (Nat → Int32))} {d k n : Nat} {P : am_O → Prop} {I : am_I} {J : am_J} {Pf : am_R} (hp : am_PF Pf) {x1 : Int32} (q : (if 25 ≤ x1 then (am_mth d 263 [.ref 163, .int 0] (am_SH, I, J, Pf) (am_af sc d 271 36 [some (.ref 163), some (.int x1)] [.int 0, .ref 163] [] (am_SH, I, J, Pf) k n true P)) else (am_in x1 25 = true) ∧ (am_in x1 125 = true) ∧ (am_go sc d 271 (10, [some (.ref 163), some (.int (x1 + 1))], [], (am_SH, am_u I 183 (Int32.toNatClampNeg x1) (I 180 (Int32.toNatClampNeg x1)), J, Pf), k, n) P))) : am_go sc d 271 (10, [some (.ref 163), some (.int x1)], [], (am_SH, I, J, Pf), k, n) P := by
  refine am_s_iload_n rfl dc271_0.2.2.1 ?_
  refine am_s_bipush am_cb25 dc271_0.2.2.2 ?_
  refine am_s_ic_ge dc271_1.1.1.1 rfl (fun c1 => ?_) (fun c1 => ?_)
  · refine am_s_aload_n rfl dc271_2.1.2.2 ?_
    refine am_s_iconst am_cc0 dc271_2.2.1.1 ?_
    exact am_s_virtual true dc271_2.2.1.2 rfl (by decide) rfl rfl rfl ((vi_t q c1))
  · refine am_s_aload_n rfl dc271_1.1.1.2 ?_
    refine am_s_getR (r := 183) dc271_1.1.2.1 rfl rfl rfl (hp _ _ _ rfl) ?_
    refine am_s_iload_n rfl dc271_1.1.2.2 ?_
    refine am_s_aload_n rfl dc271_1.2.1.1 ?_
    refine am_s_getR (r := 180) dc271_1.2.1.2 rfl rfl rfl (hp _ _ _ rfl) ?_
    refine am_s_iload_n rfl dc271_1.2.2.1 ?_
    refine am_x_iaload (x := I 180 (Int32.toNatClampNeg x1)) dc271_1.2.2.2 rfl ((vi_f q c1).1) rfl rfl ?_
    refine am_s_iastore dc271_2.1.1.1 rfl ((vi_f q c1).2.1) rfl ?_
    refine am_s_iinc (ls' := [some (.ref 163), some (.int (x1 + 1))]) am_cc1 rfl rfl dc271_2.1.1.2 ?_
    refine am_s_goto rfl dc271_2.1.2.1 ?_
    exact (vi_f q c1).2.2
theorem v271_39 {sc : Option (Nat × (Nat → Int32))} {d k n : Nat} {P : am_O → Prop} {I : am_I} {J : am_J} {Pf : am_R} (hp : am_PF Pf) {l1 : Option Value} (q : (P (.inl none, (am_SH, am_u I 163 46 1, J, Pf), k, n))) : am_go sc d 271 (39, [some (.ref 163), l1], [], (am_SH, I, J, Pf), k, n) P := by
  refine am_s_aload_n rfl dc271_2.2.2.1 ?_
  refine am_s_iconst am_cc1 dc271_2.2.2.2 ?_
  refine am_s_putZ dc271_3.1 rfl rfl rfl rfl (by decide) ?_
  exact am_s_return dc271_3.2 rfl (q)
-- sortsNow ()I
theorem v272_0 {sc : Option (Nat × (Nat → Int32))} {d k n : Nat} {P : am_O → Prop} {I : am_I} {J : am_J} {Pf : am_R} (hp : am_PF Pf) {l1 : Option Value} (q : (am_go sc d 272 (2, [some (.ref 163), some (.int 0)], [], (am_SH, I, J, Pf), k, n) P)) : am_go sc d 272 (0, [some (.ref 163), l1], [], (am_SH, I, J, Pf), k, n) P := by
  refine am_s_iconst am_cc0 dc272_0.1.1.1 ?_
  refine am_s_istore_n (ls' := [some (.ref 163), some (.int 0)]) rfl rfl dc272_0.1.1.2 ?_
  exact q
theorem v272_2 {sc : Option (Nat × (Nat → Int32))} {d k n : Nat} {P : am_O → Prop} {I : am_I} {J : am_J} {Pf : am_R} (hp : am_PF Pf) {x1 : Int32} (q : (if 25 ≤ x1 then (am_mth d 263 [.ref 163, .int 0] (am_SH, am_u I 163 46 0, J, Pf) (am_af sc d 272 33 [some (.ref 163), some (.int x1)] [.int 0, .ref 163] [] (am_SH, am_u I 163 46 0, J, Pf) k n true P)) else (am_in x1 25 = true) ∧ (am_in x1 125 = true) ∧ (am_go sc d 272 (2, [some (.ref 163), some (.int (x1 + 1))], [], (am_SH, am_u I 183 (Int32.toNatClampNeg x1) (I 181 (Int32.toNatClampNeg x1)), J, Pf), k, n) P))) : am_go sc d 272 (2, [some (.ref 163), some (.int x1)], [], (am_SH, I, J, Pf), k, n) P := by
  refine am_s_iload_n rfl dc272_0.1.2.1 ?_
  refine am_s_bipush am_cb25 dc272_0.1.2.2 ?_
  refine am_s_ic_ge dc272_0.2.1.1 rfl (fun c1 => ?_) (fun c1 => ?_)
  · refine am_s_aload_n rfl dc272_1.2.2.2 ?_
    refine am_s_iconst am_cc0 dc272_2.1.1.1 ?_
    refine am_s_putZ dc272_2.1.1.2 rfl rfl rfl rfl (by decide) ?_
    refine am_s_aload_n rfl dc272_2.1.2.1 ?_
    refine am_s_iconst am_cc0 dc272_2.1.2.2 ?_
    exact am_s_virtual true dc272_2.2.1.1 rfl (by decide) rfl rfl rfl ((vi_t q c1))
  · refine am_s_aload_n rfl dc272_0.2.1.2 ?_
    refine am_s_getR (r := 183) dc272_0.2.2.1 rfl rfl rfl (hp _ _ _ rfl) ?_
    refine am_s_iload_n rfl dc272_0.2.2.2 ?_
    refine am_s_aload_n rfl dc272_1.1.1.1 ?_
    refine am_s_getR (r := 181) dc272_1.1.1.2 rfl rfl rfl (hp _ _ _ rfl) ?_
    refine am_s_iload_n rfl dc272_1.1.2.1 ?_
    refine am_x_iaload (x := I 181 (Int32.toNatClampNeg x1)) dc272_1.1.2.2 rfl ((vi_f q c1).1) rfl rfl ?_
    refine am_s_iastore dc272_1.2.1.1 rfl ((vi_f q c1).2.1) rfl ?_
    refine am_s_iinc (ls' := [some (.ref 163), some (.int (x1 + 1))]) am_cc1 rfl rfl dc272_1.2.1.2 ?_
    refine am_s_goto rfl dc272_1.2.2.1 ?_
    exact (vi_f q c1).2.2
theorem v272_36 {sc : Option (Nat × (Nat → Int32))} {d k n : Nat} {P : am_O → Prop} {I : am_I} {J : am_J} {Pf : am_R} (hp : am_PF Pf) {l1 : Option Value} (q : (am_mth d 262 [.ref 163, .int 0] (am_SH, I, J, Pf) (am_af sc d 272 38 [some (.ref 163), l1] [.int 0, .ref 163] [] (am_SH, I, J, Pf) k n true P))) : am_go sc d 272 (36, [some (.ref 163), l1], [], (am_SH, I, J, Pf), k, n) P := by
  refine am_s_aload_n rfl dc272_2.2.1.2 ?_
  refine am_s_iconst am_cc0 dc272_2.2.2.1 ?_
  exact am_s_virtual true dc272_2.2.2.2 rfl (by decide) rfl rfl rfl (q)
theorem v272_41 {sc : Option (Nat × (Nat → Int32))} {d k n : Nat} {P : am_O → Prop} {I : am_I} {J : am_J} {Pf : am_R} (hp : am_PF Pf) {l0 : Option Value} {l1 : Option Value} {s0 : Int32} (q : (P (.inl (some (.int s0)), (am_SH, I, J, Pf), k, n))) : am_go sc d 272 (41, [l0, l1], [.int s0], (am_SH, I, J, Pf), k, n) P := by
  exact am_s_ireturn dc272_3 rfl (q)
-- take ()V
theorem v273_0 {sc : Option (Nat × (Nat → Int32))} {d k n : Nat} {P : am_O → Prop} {I : am_I} {J : am_J} {Pf : am_R} (hp : am_PF Pf)  (q : (am_mth d 207 [.ref 163, .ref 180, .ref 181, .int 25] (am_SH, I, J, Pf) (am_af sc d 273 11 [some (.ref 163)] [.int 25, .ref 181, .ref 180, .ref 163] [] (am_SH, I, J, Pf) k n true P))) : am_go sc d 273 (0, [some (.ref 163)], [], (am_SH, I, J, Pf), k, n) P := by
  refine am_s_aload_n rfl dc273_0.1.1.1 ?_
  refine am_s_aload_n rfl dc273_0.1.1.2 ?_
  refine am_s_getR (r := 180) dc273_0.1.2.1 rfl rfl rfl (hp _ _ _ rfl) ?_
  refine am_s_aload_n rfl dc273_0.1.2.2 ?_
  refine am_s_getR (r := 181) dc273_0.2.1.1 rfl rfl rfl (hp _ _ _ rfl) ?_
  refine am_s_bipush am_cb25 dc273_0.2.1.2 ?_
  exact am_s_virtual true dc273_0.2.2.1 rfl (by decide) rfl rfl rfl (q)
theorem v273_14 {sc : Option (Nat × (Nat → Int32))} {d k n : Nat} {P : am_O → Prop} {I : am_I} {J : am_J} {Pf : am_R} (hp : am_PF Pf) {l0 : Option Value} (q : (P (.inl none, (am_SH, I, J, Pf), k, n))) : am_go sc d 273 (14, [l0], [], (am_SH, I, J, Pf), k, n) P := by
  exact am_s_return dc273_0.2.2.2 rfl (q)
-- told (I)I
theorem v274_0 {sc : Option (Nat × (Nat → Int32))} {d k n : Nat} {P : am_O → Prop} {I : am_I} {J : am_J} {Pf : am_R} (hp : am_PF Pf) {x1 : Int32} {l2 : Option Value} {l3 : Option Value} (q : (if x1 < 0 then (P (.inl (some (.int 0)), (am_SH, am_u (am_u (am_u I 163 0 0) 163 0 1) 164 1 ((I 164 1) + 1), J, Pf), k, n)) else (if 9 < x1 then (P (.inl (some (.int 0)), (am_SH, am_u (am_u (am_u I 163 0 0) 163 0 1) 164 1 ((I 164 1) + 1), J, Pf), k, n)) else (if 6 ≤ x1 then (if x1 = 7 then (am_mth (d + 1) 271 [.ref 163] (am_SH, am_u I 163 0 0, J, Pf) (am_af sc (d + 1) 274 43 [some (.ref 163), some (.int x1), l2, l3] [.ref 163] [] (am_SH, am_u I 163 0 0, J, Pf) k n true P)) else (am_go sc (d + 1) 274 (56, [some (.ref 163), some (.int x1), some (.int 0), some (.int 0)], [], (am_SH, am_u I 163 0 0, J, Pf), k, n) P)) else (am_in x1 1040 = true) ∧ (P (.inl (some (.int (I 167 (Int32.toNatClampNeg x1)))), (am_SH, am_u I 163 0 0, J, Pf), k, n)))))) : am_go sc (d + 1) 274 (0, [some (.ref 163), some (.int x1), l2, l3], [], (am_SH, I, J, Pf), k, n) P := by
  refine am_s_aload_n rfl dc274_0.1.1.1 ?_
  refine am_s_iconst am_cc0 dc274_0.1.1.2 ?_
  refine am_s_putI dc274_0.1.2.1 rfl rfl rfl rfl ?_
  refine am_s_aload_n rfl dc274_0.1.2.2 ?_
  refine am_s_iload_n rfl dc274_0.2.1.1 ?_
  refine am_s_iconst am_cc0 dc274_0.2.1.2 ?_
  refine am_s_bipush am_cb9 dc274_0.2.2.1 ?_
  refine am_s_static dc274_0.2.2.2 rfl rfl rfl (am_mth_of rfl rfl ?_)
  refine am_s_iload_n rfl dc190_0.1.1.1 ?_
  refine am_s_iload_n rfl dc190_0.1.1.2 ?_
  refine am_s_ic_lt dc190_0.1.2.1 rfl (fun c1 => ?_) (fun c1 => ?_)
  · refine am_s_iconst am_cc0 dc190_1.1 ?_
    refine am_s_zreturn dc190_1.2 rfl (by decide) (am_bkI ?_)
    refine am_s_iconst am_cc1 dc274_1.1.1.1 ?_
    refine am_s_iconst am_cc1 dc274_1.1.1.2 ?_
    refine am_s_virtual true dc274_1.1.2.1 rfl (by decide) rfl rfl rfl (am_mth_of rfl rfl ?_)
    refine am_s_iload_n rfl dc189_0.1.1.1 ?_
    refine am_s_if_ne dc189_0.1.1.2 rfl (fun z => absurd z (by decide)) (fun _ => ?_)
    refine am_s_aload_n rfl dc189_0.1.2.1 ?_
    refine am_x_getI (x := 0) dc189_0.1.2.2 rfl rfl (Or.inl rfl) rfl ?_
    refine am_s_if_ne dc189_0.2.1.1 rfl (fun z => absurd z (by decide)) (fun _ => ?_)
    refine am_s_aload_n rfl dc189_0.2.1.2 ?_
    refine am_s_iload_n rfl dc189_0.2.2.1 ?_
    refine am_s_putI dc189_0.2.2.2 rfl rfl rfl rfl ?_
    refine am_s_aload_n rfl dc189_1.1.1.1 ?_
    refine am_s_getR (r := 164) dc189_1.1.1.2 rfl rfl rfl (hp _ _ _ rfl) ?_
    refine am_s_iload_n rfl dc189_1.1.2.1 ?_
    refine am_s_dup2 rfl rfl dc189_1.1.2.2 ?_
    refine am_x_iaload (x := I 164 1) dc189_1.2.1.1 rfl (by decide +kernel) am_cN1 rfl ?_
    refine am_s_iconst am_cc1 dc189_1.2.1.2 ?_
    refine am_s_iadd dc189_1.2.2.1 ?_
    refine am_s_iastore dc189_1.2.2.2 rfl (by decide +kernel) am_cN1 ?_
    refine am_s_aload_n rfl dc189_2.1.1 ?_
    refine am_x_getI (x := 1) dc189_2.1.2.1 rfl rfl (Or.inl rfl) rfl ?_
    refine am_s_if_ne dc189_2.1.2.2 rfl (fun _ => ?_) (fun z => absurd z (by decide))
    refine am_s_iconst am_cc0 dc189_2.2.2.1 ?_
    refine am_s_zreturn dc189_2.2.2.2 rfl (by decide) (am_bkI ?_)
    refine am_s_if_ne dc274_1.1.2.2 rfl (fun z => absurd z (by decide)) (fun _ => ?_)
    refine am_s_iconst am_cc0 dc274_1.2.1.1 ?_
    exact am_s_ireturn dc274_1.2.1.2 rfl ((vi_t q c1))
  · refine am_s_iload_n rfl dc190_0.1.2.2 ?_
    refine am_s_iload_n rfl dc190_0.2.1.1 ?_
    refine am_s_ic_gt dc190_0.2.1.2 rfl (fun c2 => ?_) (fun c2 => ?_)
    · refine am_s_iconst am_cc0 dc190_1.1 ?_
      refine am_s_zreturn dc190_1.2 rfl (by decide) (am_bkI ?_)
      refine am_s_iconst am_cc1 dc274_1.1.1.1 ?_
      refine am_s_iconst am_cc1 dc274_1.1.1.2 ?_
      refine am_s_virtual true dc274_1.1.2.1 rfl (by decide) rfl rfl rfl (am_mth_of rfl rfl ?_)
      refine am_s_iload_n rfl dc189_0.1.1.1 ?_
      refine am_s_if_ne dc189_0.1.1.2 rfl (fun z => absurd z (by decide)) (fun _ => ?_)
      refine am_s_aload_n rfl dc189_0.1.2.1 ?_
      refine am_x_getI (x := 0) dc189_0.1.2.2 rfl rfl (Or.inl rfl) rfl ?_
      refine am_s_if_ne dc189_0.2.1.1 rfl (fun z => absurd z (by decide)) (fun _ => ?_)
      refine am_s_aload_n rfl dc189_0.2.1.2 ?_
      refine am_s_iload_n rfl dc189_0.2.2.1 ?_
      refine am_s_putI dc189_0.2.2.2 rfl rfl rfl rfl ?_
      refine am_s_aload_n rfl dc189_1.1.1.1 ?_
      refine am_s_getR (r := 164) dc189_1.1.1.2 rfl rfl rfl (hp _ _ _ rfl) ?_
      refine am_s_iload_n rfl dc189_1.1.2.1 ?_
      refine am_s_dup2 rfl rfl dc189_1.1.2.2 ?_
      refine am_x_iaload (x := I 164 1) dc189_1.2.1.1 rfl (by decide +kernel) am_cN1 rfl ?_
      refine am_s_iconst am_cc1 dc189_1.2.1.2 ?_
      refine am_s_iadd dc189_1.2.2.1 ?_
      refine am_s_iastore dc189_1.2.2.2 rfl (by decide +kernel) am_cN1 ?_
      refine am_s_aload_n rfl dc189_2.1.1 ?_
      refine am_x_getI (x := 1) dc189_2.1.2.1 rfl rfl (Or.inl rfl) rfl ?_
      refine am_s_if_ne dc189_2.1.2.2 rfl (fun _ => ?_) (fun z => absurd z (by decide))
      refine am_s_iconst am_cc0 dc189_2.2.2.1 ?_
      refine am_s_zreturn dc189_2.2.2.2 rfl (by decide) (am_bkI ?_)
      refine am_s_if_ne dc274_1.1.2.2 rfl (fun z => absurd z (by decide)) (fun _ => ?_)
      refine am_s_iconst am_cc0 dc274_1.2.1.1 ?_
      exact am_s_ireturn dc274_1.2.1.2 rfl ((vi_t (vi_f q c1) c2))
    · refine am_s_iconst am_cc1 dc190_0.2.2.1 ?_
      refine am_s_goto rfl dc190_0.2.2.2 ?_
      refine am_s_zreturn dc190_1.2 rfl (by decide) (am_bkI ?_)
      refine am_s_iconst am_cc1 dc274_1.1.1.1 ?_
      refine am_s_iconst am_cc1 dc274_1.1.1.2 ?_
      refine am_s_virtual true dc274_1.1.2.1 rfl (by decide) rfl rfl rfl (am_mth_of rfl rfl ?_)
      refine am_s_iload_n rfl dc189_0.1.1.1 ?_
      refine am_s_if_ne dc189_0.1.1.2 rfl (fun _ => ?_) (fun z => absurd z (by decide))
      refine am_s_aload_n rfl dc189_2.1.1 ?_
      refine am_x_getI (x := 0) dc189_2.1.2.1 rfl rfl (Or.inl rfl) rfl ?_
      refine am_s_if_ne dc189_2.1.2.2 rfl (fun z => absurd z (by decide)) (fun _ => ?_)
      refine am_s_iconst am_cc1 dc189_2.2.1.1 ?_
      refine am_s_goto rfl dc189_2.2.1.2 ?_
      refine am_s_zreturn dc189_2.2.2.2 rfl (by decide) (am_bkI ?_)
      refine am_s_if_ne dc274_1.1.2.2 rfl (fun _ => ?_) (fun z => absurd z (by decide))
      refine am_s_iload_n rfl dc274_1.2.2.1 ?_
      refine am_s_bipush am_cb6 dc274_1.2.2.2 ?_
      refine am_s_ic_ge dc274_2.1.1.1 rfl (fun c3 => ?_) (fun c3 => ?_)
      · refine am_s_iload_n rfl dc274_2.2.2.1 ?_
        refine am_s_bipush am_cb7 dc274_2.2.2.2 ?_
        refine am_s_ic_ne dc274_3.1.1.1 rfl (fun c4 => ?_) (fun c4 => ?_)
        · refine am_s_iconst am_cc0 dc274_3.2.2.2 ?_
          refine am_s_istore_n (ls' := [some (.ref 163), some (.int x1), some (.int 0), l3]) rfl rfl dc274_4.1.1.1 ?_
          refine am_s_iconst am_cc0 dc274_4.1.1.2 ?_
          refine am_s_istore_n (ls' := [some (.ref 163), some (.int x1), some (.int 0), some (.int 0)]) rfl rfl dc274_4.1.2.1 ?_
          exact (vi_f (vi_t (vi_f (vi_f q c1) c2) c3) c4)
        · refine am_s_aload_n rfl dc274_3.1.1.2 ?_
          exact am_s_virtual true dc274_3.1.2.1 rfl (by decide) rfl rfl rfl ((vi_t (vi_t (vi_f (vi_f q c1) c2) c3) (Decidable.not_not.mp c4)))
      · refine am_s_aload_n rfl dc274_2.1.1.2 ?_
        refine am_s_getR (r := 167) dc274_2.1.2.1 rfl rfl rfl (hp _ _ _ rfl) ?_
        refine am_s_iload_n rfl dc274_2.1.2.2 ?_
        refine am_x_iaload (x := I 167 (Int32.toNatClampNeg x1)) dc274_2.2.1.1 rfl ((vi_f (vi_f (vi_f q c1) c2) c3).1) rfl rfl ?_
        exact am_s_ireturn dc274_2.2.1.2 rfl ((vi_f (vi_f (vi_f q c1) c2) c3).2)
theorem v274_56 {sc : Option (Nat × (Nat → Int32))} {d k n : Nat} {P : am_O → Prop} {I : am_I} {J : am_J} {Pf : am_R} (hp : am_PF Pf) {x1 : Int32} {x2 : Int32} {x3 : Int32} (q : (if 8 ≤ x3 then (if x1 = 6 then (P (.inl (some (.int x2)), (am_SH, I, J, Pf), k, n)) else (if x1 = 8 then (P (.inl (some (.int (I 180 0))), (am_SH, I, J, Pf), k, n)) else (P (.inl (some (.int (I 163 35))), (am_SH, I, J, Pf), k, n)))) else (am_in x3 8 = true) ∧ (if (I 171 (Int32.toNatClampNeg x3)) ≤ x2 then (am_go sc d 274 (56, [some (.ref 163), some (.int x1), some (.int x2), some (.int (x3 + 1))], [], (am_SH, I, J, Pf), k, n) P) else (am_in x3 8 = true) ∧ (am_go sc d 274 (56, [some (.ref 163), some (.int x1), some (.int (I 171 (Int32.toNatClampNeg x3))), some (.int (x3 + 1))], [], (am_SH, I, J, Pf), k, n) P)))) : am_go sc d 274 (56, [some (.ref 163), some (.int x1), some (.int x2), some (.int x3)], [], (am_SH, I, J, Pf), k, n) P := by
  refine am_s_iload_n rfl dc274_4.1.2.2 ?_
  refine am_s_bipush am_cb8 dc274_4.2.1.1 ?_
  refine am_s_ic_ge dc274_4.2.1.2 rfl (fun c1 => ?_) (fun c1 => ?_)
  · refine am_s_iload_n rfl dc274_6.2.1.2 ?_
    refine am_s_bipush am_cb6 dc274_6.2.2.1 ?_
    refine am_s_ic_ne dc274_6.2.2.2 rfl (fun c2 => ?_) (fun c2 => ?_)
    · refine am_s_iload_n rfl dc274_7.1.2.1 ?_
      refine am_s_bipush am_cb8 dc274_7.1.2.2 ?_
      refine am_s_ic_ne dc274_7.2.1.1 rfl (fun c3 => ?_) (fun c3 => ?_)
      · refine am_s_aload_n rfl dc274_8.2.1 ?_
        refine am_x_getI (x := I 163 35) dc274_8.2.2.1 rfl rfl (Or.inl rfl) rfl ?_
        exact am_s_ireturn dc274_8.2.2.2 rfl ((vi_f (vi_f (vi_t q c1) c2) c3))
      · refine am_s_aload_n rfl dc274_7.2.1.2 ?_
        refine am_s_getR (r := 180) dc274_7.2.2.1 rfl rfl rfl (hp _ _ _ rfl) ?_
        refine am_s_iconst am_cc0 dc274_7.2.2.2 ?_
        refine am_x_iaload (x := I 180 0) dc274_8.1.1 rfl (by decide +kernel) am_cN0 rfl ?_
        refine am_s_goto rfl dc274_8.1.2 ?_
        exact am_s_ireturn dc274_8.2.2.2 rfl ((vi_t (vi_f (vi_t q c1) c2) (Decidable.not_not.mp c3)))
    · refine am_s_iload_n rfl dc274_7.1.1.1 ?_
      refine am_s_goto rfl dc274_7.1.1.2 ?_
      exact am_s_ireturn dc274_8.2.2.2 rfl ((vi_t (vi_t q c1) (Decidable.not_not.mp c2)))
  · refine am_s_aload_n rfl dc274_4.2.2.1 ?_
    refine am_s_getR (r := 171) dc274_4.2.2.2 rfl rfl rfl (hp _ _ _ rfl) ?_
    refine am_s_iload_n rfl dc274_5.1.1.1 ?_
    refine am_x_iaload (x := I 171 (Int32.toNatClampNeg x3)) dc274_5.1.1.2 rfl ((vi_f q c1).1) rfl rfl ?_
    refine am_s_iload_n rfl dc274_5.1.2.1 ?_
    refine am_s_ic_le dc274_5.1.2.2 rfl (fun c2 => ?_) (fun c2 => ?_)
    · refine am_s_iload_n rfl dc274_6.1.1.2 ?_
      refine am_s_istore_n (ls' := [some (.ref 163), some (.int x1), some (.int x2), some (.int x3)]) rfl rfl dc274_6.1.2.1 ?_
      refine am_s_iinc (ls' := [some (.ref 163), some (.int x1), some (.int x2), some (.int (x3 + 1))]) am_cc1 rfl rfl dc274_6.1.2.2 ?_
      refine am_s_goto rfl dc274_6.2.1.1 ?_
      exact (vi_t (vi_f q c1).2 c2)
    · refine am_s_aload_n rfl dc274_5.2.1.1 ?_
      refine am_s_getR (r := 171) dc274_5.2.1.2 rfl rfl rfl (hp _ _ _ rfl) ?_
      refine am_s_iload_n rfl dc274_5.2.2.1 ?_
      refine am_x_iaload (x := I 171 (Int32.toNatClampNeg x3)) dc274_5.2.2.2 rfl ((vi_f (vi_f q c1).2 c2).1) rfl rfl ?_
      refine am_s_goto rfl dc274_6.1.1.1 ?_
      refine am_s_istore_n (ls' := [some (.ref 163), some (.int x1), some (.int (I 171 (Int32.toNatClampNeg x3))), some (.int x3)]) rfl rfl dc274_6.1.2.1 ?_
      refine am_s_iinc (ls' := [some (.ref 163), some (.int x1), some (.int (I 171 (Int32.toNatClampNeg x3))), some (.int (x3 + 1))]) am_cc1 rfl rfl dc274_6.1.2.2 ?_
      refine am_s_goto rfl dc274_6.2.1.1 ?_
      exact (vi_f (vi_f q c1).2 c2).2
theorem v274_46 {sc : Option (Nat × (Nat → Int32))} {d k n : Nat} {P : am_O → Prop} {I : am_I} {J : am_J} {Pf : am_R} (hp : am_PF Pf) {l1 : Option Value} {l2 : Option Value} {l3 : Option Value} (q : (am_mth d 262 [.ref 163, .int 0] (am_SH, I, J, Pf) (am_af sc d 274 48 [some (.ref 163), l1, l2, l3] [.int 0, .ref 163] [] (am_SH, I, J, Pf) k n true P))) : am_go sc d 274 (46, [some (.ref 163), l1, l2, l3], [], (am_SH, I, J, Pf), k, n) P := by
  refine am_s_aload_n rfl dc274_3.1.2.2 ?_
  refine am_s_iconst am_cc0 dc274_3.2.1.1 ?_
  exact am_s_virtual true dc274_3.2.1.2 rfl (by decide) rfl rfl rfl (q)
theorem v274_51 {sc : Option (Nat × (Nat → Int32))} {d k n : Nat} {P : am_O → Prop} {I : am_I} {J : am_J} {Pf : am_R} (hp : am_PF Pf) {l0 : Option Value} {l1 : Option Value} {l2 : Option Value} {l3 : Option Value} {s0 : Int32} (q : (P (.inl (some (.int s0)), (am_SH, I, J, Pf), k, n))) : am_go sc d 274 (51, [l0, l1, l2, l3], [.int s0], (am_SH, I, J, Pf), k, n) P := by
  exact am_s_ireturn dc274_3.2.2.1 rfl (q)
-- isClass (I)Z
theorem v275_0 {sc : Option (Nat × (Nat → Int32))} {d k n : Nat} {P : am_O → Prop} {I : am_I} {J : am_J} {Pf : am_R} (hp : am_PF Pf) {x1 : Int32} (q : (if x1 < 0 then (if (I 163 0) = 0 then (P (.inl (some (.int 0)), (am_SH, am_u (am_u I 163 0 1) 164 0 ((I 164 0) + 1), J, Pf), k, n)) else (P (.inl (some (.int 0)), (am_SH, I, J, Pf), k, n))) else (if ((I 167 0) - 1) < x1 then (if (I 163 0) = 0 then (P (.inl (some (.int 0)), (am_SH, am_u (am_u I 163 0 1) 164 0 ((I 164 0) + 1), J, Pf), k, n)) else (P (.inl (some (.int 0)), (am_SH, I, J, Pf), k, n))) else (if (I 163 0) = 0 then (P (.inl (some (.int 1)), (am_SH, I, J, Pf), k, n)) else (P (.inl (some (.int 0)), (am_SH, I, J, Pf), k, n)))))) : am_go sc (d + 1) 275 (0, [some (.ref 163), some (.int x1)], [], (am_SH, I, J, Pf), k, n) P := by
  refine am_s_aload_n rfl dc275_0.1.1.1 ?_
  refine am_s_iload_n rfl dc275_0.1.1.2 ?_
  refine am_s_iconst am_cc0 dc275_0.1.2.1 ?_
  refine am_s_aload_n rfl dc275_0.1.2.2 ?_
  refine am_s_getR (r := 167) dc275_0.2.1.1 rfl rfl rfl (hp _ _ _ rfl) ?_
  refine am_s_iconst am_cc0 dc275_0.2.1.2 ?_
  refine am_x_iaload (x := I 167 0) dc275_0.2.2.1 rfl (by decide +kernel) am_cN0 rfl ?_
  refine am_s_iconst am_cc1 dc275_0.2.2.2 ?_
  refine am_s_isub dc275_1.1.1 ?_
  refine am_s_static dc275_1.1.2.1 rfl rfl rfl (am_mth_of rfl rfl ?_)
  refine am_s_iload_n rfl dc190_0.1.1.1 ?_
  refine am_s_iload_n rfl dc190_0.1.1.2 ?_
  refine am_s_ic_lt dc190_0.1.2.1 rfl (fun c1 => ?_) (fun c1 => ?_)
  · refine am_s_iconst am_cc0 dc190_1.1 ?_
    refine am_s_zreturn dc190_1.2 rfl (by decide) (am_bkI ?_)
    refine am_s_iconst am_cc1 dc275_1.1.2.2 ?_
    refine am_s_iconst am_cc0 dc275_1.2.1 ?_
    refine am_s_virtual true dc275_1.2.2.1 rfl (by decide) rfl rfl rfl (am_mth_of rfl rfl ?_)
    refine am_s_iload_n rfl dc189_0.1.1.1 ?_
    refine am_s_if_ne dc189_0.1.1.2 rfl (fun z => absurd z (by decide)) (fun _ => ?_)
    refine am_s_aload_n rfl dc189_0.1.2.1 ?_
    refine am_x_getI (x := I 163 0) dc189_0.1.2.2 rfl rfl (Or.inl rfl) rfl ?_
    refine am_s_if_ne dc189_0.2.1.1 rfl (fun c2 => ?_) (fun c2 => ?_)
    · refine am_s_aload_n rfl dc189_2.1.1 ?_
      refine am_x_getI (x := I 163 0) dc189_2.1.2.1 rfl rfl (Or.inl rfl) rfl ?_
      refine am_s_if_ne dc189_2.1.2.2 rfl (fun _ => ?_) (fun z => absurd c2 z)
      refine am_s_iconst am_cc0 dc189_2.2.2.1 ?_
      refine am_s_zreturn dc189_2.2.2.2 rfl (by decide) (am_bkI ?_)
      exact am_s_zreturn dc275_1.2.2.2 rfl (by decide) ((vi_f (vi_t q c1) c2))
    · refine am_s_aload_n rfl dc189_0.2.1.2 ?_
      refine am_s_iload_n rfl dc189_0.2.2.1 ?_
      refine am_s_putI dc189_0.2.2.2 rfl rfl rfl rfl ?_
      refine am_s_aload_n rfl dc189_1.1.1.1 ?_
      refine am_s_getR (r := 164) dc189_1.1.1.2 rfl rfl rfl (hp _ _ _ rfl) ?_
      refine am_s_iload_n rfl dc189_1.1.2.1 ?_
      refine am_s_dup2 rfl rfl dc189_1.1.2.2 ?_
      refine am_x_iaload (x := I 164 0) dc189_1.2.1.1 rfl (by decide +kernel) am_cN0 rfl ?_
      refine am_s_iconst am_cc1 dc189_1.2.1.2 ?_
      refine am_s_iadd dc189_1.2.2.1 ?_
      refine am_s_iastore dc189_1.2.2.2 rfl (by decide +kernel) am_cN0 ?_
      refine am_s_aload_n rfl dc189_2.1.1 ?_
      refine am_x_getI (x := 1) dc189_2.1.2.1 rfl rfl (Or.inl rfl) rfl ?_
      refine am_s_if_ne dc189_2.1.2.2 rfl (fun _ => ?_) (fun z => absurd z (by decide))
      refine am_s_iconst am_cc0 dc189_2.2.2.1 ?_
      refine am_s_zreturn dc189_2.2.2.2 rfl (by decide) (am_bkI ?_)
      exact am_s_zreturn dc275_1.2.2.2 rfl (by decide) ((vi_t (vi_t q c1) (Decidable.not_not.mp c2)))
  · refine am_s_iload_n rfl dc190_0.1.2.2 ?_
    refine am_s_iload_n rfl dc190_0.2.1.1 ?_
    refine am_s_ic_gt dc190_0.2.1.2 rfl (fun c2 => ?_) (fun c2 => ?_)
    · refine am_s_iconst am_cc0 dc190_1.1 ?_
      refine am_s_zreturn dc190_1.2 rfl (by decide) (am_bkI ?_)
      refine am_s_iconst am_cc1 dc275_1.1.2.2 ?_
      refine am_s_iconst am_cc0 dc275_1.2.1 ?_
      refine am_s_virtual true dc275_1.2.2.1 rfl (by decide) rfl rfl rfl (am_mth_of rfl rfl ?_)
      refine am_s_iload_n rfl dc189_0.1.1.1 ?_
      refine am_s_if_ne dc189_0.1.1.2 rfl (fun z => absurd z (by decide)) (fun _ => ?_)
      refine am_s_aload_n rfl dc189_0.1.2.1 ?_
      refine am_x_getI (x := I 163 0) dc189_0.1.2.2 rfl rfl (Or.inl rfl) rfl ?_
      refine am_s_if_ne dc189_0.2.1.1 rfl (fun c3 => ?_) (fun c3 => ?_)
      · refine am_s_aload_n rfl dc189_2.1.1 ?_
        refine am_x_getI (x := I 163 0) dc189_2.1.2.1 rfl rfl (Or.inl rfl) rfl ?_
        refine am_s_if_ne dc189_2.1.2.2 rfl (fun _ => ?_) (fun z => absurd c3 z)
        refine am_s_iconst am_cc0 dc189_2.2.2.1 ?_
        refine am_s_zreturn dc189_2.2.2.2 rfl (by decide) (am_bkI ?_)
        exact am_s_zreturn dc275_1.2.2.2 rfl (by decide) ((vi_f (vi_t (vi_f q c1) c2) c3))
      · refine am_s_aload_n rfl dc189_0.2.1.2 ?_
        refine am_s_iload_n rfl dc189_0.2.2.1 ?_
        refine am_s_putI dc189_0.2.2.2 rfl rfl rfl rfl ?_
        refine am_s_aload_n rfl dc189_1.1.1.1 ?_
        refine am_s_getR (r := 164) dc189_1.1.1.2 rfl rfl rfl (hp _ _ _ rfl) ?_
        refine am_s_iload_n rfl dc189_1.1.2.1 ?_
        refine am_s_dup2 rfl rfl dc189_1.1.2.2 ?_
        refine am_x_iaload (x := I 164 0) dc189_1.2.1.1 rfl (by decide +kernel) am_cN0 rfl ?_
        refine am_s_iconst am_cc1 dc189_1.2.1.2 ?_
        refine am_s_iadd dc189_1.2.2.1 ?_
        refine am_s_iastore dc189_1.2.2.2 rfl (by decide +kernel) am_cN0 ?_
        refine am_s_aload_n rfl dc189_2.1.1 ?_
        refine am_x_getI (x := 1) dc189_2.1.2.1 rfl rfl (Or.inl rfl) rfl ?_
        refine am_s_if_ne dc189_2.1.2.2 rfl (fun _ => ?_) (fun z => absurd z (by decide))
        refine am_s_iconst am_cc0 dc189_2.2.2.1 ?_
        refine am_s_zreturn dc189_2.2.2.2 rfl (by decide) (am_bkI ?_)
        exact am_s_zreturn dc275_1.2.2.2 rfl (by decide) ((vi_t (vi_t (vi_f q c1) c2) (Decidable.not_not.mp c3)))
    · refine am_s_iconst am_cc1 dc190_0.2.2.1 ?_
      refine am_s_goto rfl dc190_0.2.2.2 ?_
      refine am_s_zreturn dc190_1.2 rfl (by decide) (am_bkI ?_)
      refine am_s_iconst am_cc1 dc275_1.1.2.2 ?_
      refine am_s_iconst am_cc0 dc275_1.2.1 ?_
      refine am_s_virtual true dc275_1.2.2.1 rfl (by decide) rfl rfl rfl (am_mth_of rfl rfl ?_)
      refine am_s_iload_n rfl dc189_0.1.1.1 ?_
      refine am_s_if_ne dc189_0.1.1.2 rfl (fun _ => ?_) (fun z => absurd z (by decide))
      refine am_s_aload_n rfl dc189_2.1.1 ?_
      refine am_x_getI (x := I 163 0) dc189_2.1.2.1 rfl rfl (Or.inl rfl) rfl ?_
      refine am_s_if_ne dc189_2.1.2.2 rfl (fun c3 => ?_) (fun c3 => ?_)
      · refine am_s_iconst am_cc0 dc189_2.2.2.1 ?_
        refine am_s_zreturn dc189_2.2.2.2 rfl (by decide) (am_bkI ?_)
        exact am_s_zreturn dc275_1.2.2.2 rfl (by decide) ((vi_f (vi_f (vi_f q c1) c2) c3))
      · refine am_s_iconst am_cc1 dc189_2.2.1.1 ?_
        refine am_s_goto rfl dc189_2.2.1.2 ?_
        refine am_s_zreturn dc189_2.2.2.2 rfl (by decide) (am_bkI ?_)
        exact am_s_zreturn dc275_1.2.2.2 rfl (by decide) ((vi_t (vi_f (vi_f q c1) c2) (Decidable.not_not.mp c3)))
-- group (II)I
theorem v276_0 {sc : Option (Nat × (Nat → Int32))} {d k n : Nat} {P : am_O → Prop} {I : am_I} {J : am_J} {Pf : am_R} (hp : am_PF Pf) {x1 : Int32} {x2 : Int32} {l3 : Option Value} {l4 : Option Value} {l5 : Option Value} {l6 : Option Value} {l7 : Option Value} (q : (am_mth d 275 [.ref 163, .int x1] (am_SH, am_u I 163 0 0, J, Pf) (am_af sc d 276 7 [some (.ref 163), some (.int x1), some (.int x2), l3, l4, l5, l6, l7] [.int x1, .ref 163] [] (am_SH, am_u I 163 0 0, J, Pf) k n true P))) : am_go sc d 276 (0, [some (.ref 163), some (.int x1), some (.int x2), l3, l4, l5, l6, l7], [], (am_SH, I, J, Pf), k, n) P := by
  refine am_s_aload_n rfl dc276_0.1.1.1 ?_
  refine am_s_iconst am_cc0 dc276_0.1.1.2 ?_
  refine am_s_putI dc276_0.1.2.1 rfl rfl rfl rfl ?_
  refine am_s_aload_n rfl dc276_0.1.2.2 ?_
  refine am_s_iload_n rfl dc276_0.2.1.1 ?_
  exact am_s_virtual true dc276_0.2.1.2 rfl (by decide) rfl rfl rfl (q)
theorem v276_45 {sc : Option (Nat × (Nat → Int32))} {d k n : Nat} {P : am_O → Prop} {I : am_I} {J : am_J} {Pf : am_R} (hp : am_PF Pf) {x1 : Int32} {x2 : Int32} {x3 : Int32} {x4 : Int32} {x5 : Int32} {x6 : Int32} {x7 : Int32} (q : (if 127 ≤ x7 then (if x2 = 0 then (P (.inl (some (.int x3)), (am_SH, I, J, Pf), k, n)) else (if x2 = 1 then (P (.inl (some (.int x4)), (am_SH, I, J, Pf), k, n)) else (if x2 = 2 then (P (.inl (some (.int x5)), (am_SH, I, J, Pf), k, n)) else (P (.inl (some (.int x6)), (am_SH, I, J, Pf), k, n))))) else (am_in ((8 + (3 * x1)) + ((x7 - 32) / 32)) 1040 = true) ∧ (if (((I 167 (Int32.toNatClampNeg ((8 + (3 * x1)) + ((x7 - 32) / 32)))) >>> (((x7 - 32) - (x7 - 32) / 32 * 32) &&& 31)) &&& 1) = 1 then (if x4 = (-1) then (if x5 = (x7 - 1) then (am_go sc (d + 1) 276 (45, [some (.ref 163), some (.int x1), some (.int x2), some (.int (x3 + 1)), some (.int x7), some (.int x7), some (.int (x6 + 0)), some (.int (x7 + 1))], [], (am_SH, I, J, Pf), k, n) P) else (am_go sc (d + 1) 276 (45, [some (.ref 163), some (.int x1), some (.int x2), some (.int (x3 + 1)), some (.int x7), some (.int x7), some (.int (x6 + 1)), some (.int (x7 + 1))], [], (am_SH, I, J, Pf), k, n) P)) else (if x5 = (x7 - 1) then (am_go sc (d + 1) 276 (45, [some (.ref 163), some (.int x1), some (.int x2), some (.int (x3 + 1)), some (.int x4), some (.int x7), some (.int (x6 + 0)), some (.int (x7 + 1))], [], (am_SH, I, J, Pf), k, n) P) else (am_go sc (d + 1) 276 (45, [some (.ref 163), some (.int x1), some (.int x2), some (.int (x3 + 1)), some (.int x4), some (.int x7), some (.int (x6 + 1)), some (.int (x7 + 1))], [], (am_SH, I, J, Pf), k, n) P))) else (am_go sc (d + 1) 276 (45, [some (.ref 163), some (.int x1), some (.int x2), some (.int x3), some (.int x4), some (.int x5), some (.int x6), some (.int (x7 + 1))], [], (am_SH, I, J, Pf), k, n) P)))) : am_go sc (d + 1) 276 (45, [some (.ref 163), some (.int x1), some (.int x2), some (.int x3), some (.int x4), some (.int x5), some (.int x6), some (.int x7)], [], (am_SH, I, J, Pf), k, n) P := by
  refine am_s_iload rfl dc276_3.2.1.1 ?_
  refine am_s_bipush am_cb127 dc276_3.2.1.2 ?_
  refine am_s_ic_ge dc276_3.2.2.1 rfl (fun c1 => ?_) (fun c1 => ?_)
  · refine am_s_iload_n rfl dc276_7.2.2.1 ?_
    refine am_s_if_ne dc276_7.2.2.2 rfl (fun c2 => ?_) (fun c2 => ?_)
    · refine am_s_iload_n rfl dc276_8.1.2.1 ?_
      refine am_s_iconst am_cc1 dc276_8.1.2.2 ?_
      refine am_s_ic_ne dc276_8.2.1.1 rfl (fun c3 => ?_) (fun c3 => ?_)
      · refine am_s_iload_n rfl dc276_8.2.2.2 ?_
        refine am_s_iconst am_cc2 dc276_9.1.1 ?_
        refine am_s_ic_ne dc276_9.1.2.1 rfl (fun c4 => ?_) (fun c4 => ?_)
        · refine am_s_iload rfl dc276_9.2.2.1 ?_
          exact am_s_ireturn dc276_9.2.2.2 rfl ((vi_f (vi_f (vi_f (vi_t q c1) c2) c3) c4))
        · refine am_s_iload rfl dc276_9.1.2.2 ?_
          refine am_s_goto rfl dc276_9.2.1 ?_
          exact am_s_ireturn dc276_9.2.2.2 rfl ((vi_t (vi_f (vi_f (vi_t q c1) c2) c3) (Decidable.not_not.mp c4)))
      · refine am_s_iload rfl dc276_8.2.1.2 ?_
        refine am_s_goto rfl dc276_8.2.2.1 ?_
        exact am_s_ireturn dc276_9.2.2.2 rfl ((vi_t (vi_f (vi_t q c1) c2) (Decidable.not_not.mp c3)))
    · refine am_s_iload_n rfl dc276_8.1.1.1 ?_
      refine am_s_goto rfl dc276_8.1.1.2 ?_
      exact am_s_ireturn dc276_9.2.2.2 rfl ((vi_t (vi_t q c1) (Decidable.not_not.mp c2)))
  · refine am_s_aload_n rfl dc276_3.2.2.2 ?_
    refine am_s_aload_n rfl dc276_4.1.1.1 ?_
    refine am_s_getR (r := 167) dc276_4.1.1.2 rfl rfl rfl (hp _ _ _ rfl) ?_
    refine am_s_iload_n rfl dc276_4.1.2.1 ?_
    refine am_s_iload rfl dc276_4.1.2.2 ?_
    refine am_s_virtual true dc276_4.2.1.1 rfl (by decide) rfl rfl rfl (am_mth_of rfl rfl ?_)
    refine am_s_iload_n rfl dc221_0.1.1.1 ?_
    refine am_s_bipush am_cb32 dc221_0.1.1.2 ?_
    refine am_s_isub dc221_0.1.2.1 ?_
    refine am_s_istore (ls' := [some (.ref 163), some (.ref 167), some (.int x1), some (.int x7), some (.int (x7 - 32))]) rfl rfl dc221_0.1.2.2 ?_
    refine am_s_aload_n rfl dc221_0.2.1.1 ?_
    refine am_s_bipush am_cb8 dc221_0.2.1.2 ?_
    refine am_s_iconst am_cc3 dc221_0.2.2.1 ?_
    refine am_s_iload_n rfl dc221_0.2.2.2 ?_
    refine am_s_imul dc221_1.1.1.1 ?_
    refine am_s_iadd dc221_1.1.1.2 ?_
    refine am_s_iload rfl dc221_1.1.2.1 ?_
    refine am_s_bipush am_cb32 dc221_1.1.2.2 ?_
    refine am_s_idiv (by decide) dc221_1.2.1.1 ?_
    refine am_s_iadd dc221_1.2.1.2 ?_
    refine am_x_iaload (x := I 167 (Int32.toNatClampNeg ((8 + (3 * x1)) + ((x7 - 32) / 32)))) dc221_1.2.2.1 rfl ((vi_f q c1).1) rfl rfl ?_
    refine am_s_iload rfl dc221_1.2.2.2 ?_
    refine am_s_bipush am_cb32 dc221_2.1.1.1 ?_
    refine am_s_irem (by decide) dc221_2.1.1.2 ?_
    refine am_s_ishr dc221_2.1.2.1 ?_
    refine am_s_iconst am_cc1 dc221_2.1.2.2 ?_
    refine am_s_iand dc221_2.2.1.1 ?_
    refine am_s_iconst am_cc1 dc221_2.2.1.2 ?_
    refine am_s_ic_ne dc221_2.2.2.1 rfl (fun c2 => ?_) (fun c2 => ?_)
    · refine am_s_iconst am_cc0 dc221_3.2.1 ?_
      refine am_s_zreturn dc221_3.2.2 rfl (by decide) (am_bkI ?_)
      refine am_s_if_ne dc276_4.2.1.2 rfl (fun z => absurd z (by decide)) (fun _ => ?_)
      refine am_s_goto rfl dc276_4.2.2.1 ?_
      refine am_s_iinc (ls' := [some (.ref 163), some (.int x1), some (.int x2), some (.int x3), some (.int x4), some (.int x5), some (.int x6), some (.int (x7 + 1))]) am_cc1 rfl rfl dc276_7.2.1.1 ?_
      refine am_s_goto rfl dc276_7.2.1.2 ?_
      exact (vi_f (vi_f q c1).2 c2)
    · refine am_s_iconst am_cc1 dc221_2.2.2.2 ?_
      refine am_s_goto rfl dc221_3.1 ?_
      refine am_s_zreturn dc221_3.2.2 rfl (by decide) (am_bkI ?_)
      refine am_s_if_ne dc276_4.2.1.2 rfl (fun _ => ?_) (fun z => absurd z (by decide))
      refine am_s_iinc (ls' := [some (.ref 163), some (.int x1), some (.int x2), some (.int (x3 + 1)), some (.int x4), some (.int x5), some (.int x6), some (.int x7)]) am_cc1 rfl rfl dc276_4.2.2.2 ?_
      refine am_s_iload rfl dc276_5.1.1.1 ?_
      refine am_s_iconst am_ccm1 dc276_5.1.1.2 ?_
      refine am_s_ic_ne dc276_5.1.2.1 rfl (fun c3 => ?_) (fun c3 => ?_)
      · refine am_s_iload rfl dc276_5.2.1.2 ?_
        refine am_s_istore (ls' := [some (.ref 163), some (.int x1), some (.int x2), some (.int (x3 + 1)), some (.int x4), some (.int x5), some (.int x6), some (.int x7)]) rfl rfl dc276_5.2.2.1 ?_
        refine am_s_iload rfl dc276_5.2.2.2 ?_
        refine am_s_iload rfl dc276_6.1.1.1 ?_
        refine am_s_iload rfl dc276_6.1.1.2 ?_
        refine am_s_iconst am_cc1 dc276_6.1.2.1 ?_
        refine am_s_isub dc276_6.1.2.2 ?_
        refine am_s_ic_ne dc276_6.2.1.1 rfl (fun c4 => ?_) (fun c4 => ?_)
        · refine am_s_iconst am_cc1 dc276_6.2.2.2 ?_
          refine am_s_iadd dc276_7.1.1.1 ?_
          refine am_s_istore (ls' := [some (.ref 163), some (.int x1), some (.int x2), some (.int (x3 + 1)), some (.int x4), some (.int x5), some (.int (x6 + 1)), some (.int x7)]) rfl rfl dc276_7.1.1.2 ?_
          refine am_s_iload rfl dc276_7.1.2.1 ?_
          refine am_s_istore (ls' := [some (.ref 163), some (.int x1), some (.int x2), some (.int (x3 + 1)), some (.int x4), some (.int x7), some (.int (x6 + 1)), some (.int x7)]) rfl rfl dc276_7.1.2.2 ?_
          refine am_s_iinc (ls' := [some (.ref 163), some (.int x1), some (.int x2), some (.int (x3 + 1)), some (.int x4), some (.int x7), some (.int (x6 + 1)), some (.int (x7 + 1))]) am_cc1 rfl rfl dc276_7.2.1.1 ?_
          refine am_s_goto rfl dc276_7.2.1.2 ?_
          exact (vi_f (vi_f (vi_t (vi_f q c1).2 (Decidable.not_not.mp c2)) c3) c4)
        · refine am_s_iconst am_cc0 dc276_6.2.1.2 ?_
          refine am_s_goto rfl dc276_6.2.2.1 ?_
          refine am_s_iadd dc276_7.1.1.1 ?_
          refine am_s_istore (ls' := [some (.ref 163), some (.int x1), some (.int x2), some (.int (x3 + 1)), some (.int x4), some (.int x5), some (.int (x6 + 0)), some (.int x7)]) rfl rfl dc276_7.1.1.2 ?_
          refine am_s_iload rfl dc276_7.1.2.1 ?_
          refine am_s_istore (ls' := [some (.ref 163), some (.int x1), some (.int x2), some (.int (x3 + 1)), some (.int x4), some (.int x7), some (.int (x6 + 0)), some (.int x7)]) rfl rfl dc276_7.1.2.2 ?_
          refine am_s_iinc (ls' := [some (.ref 163), some (.int x1), some (.int x2), some (.int (x3 + 1)), some (.int x4), some (.int x7), some (.int (x6 + 0)), some (.int (x7 + 1))]) am_cc1 rfl rfl dc276_7.2.1.1 ?_
          refine am_s_goto rfl dc276_7.2.1.2 ?_
          exact (vi_t (vi_f (vi_t (vi_f q c1).2 (Decidable.not_not.mp c2)) c3) (Decidable.not_not.mp c4))
      · refine am_s_iload rfl dc276_5.1.2.2 ?_
        refine am_s_goto rfl dc276_5.2.1.1 ?_
        refine am_s_istore (ls' := [some (.ref 163), some (.int x1), some (.int x2), some (.int (x3 + 1)), some (.int x7), some (.int x5), some (.int x6), some (.int x7)]) rfl rfl dc276_5.2.2.1 ?_
        refine am_s_iload rfl dc276_5.2.2.2 ?_
        refine am_s_iload rfl dc276_6.1.1.1 ?_
        refine am_s_iload rfl dc276_6.1.1.2 ?_
        refine am_s_iconst am_cc1 dc276_6.1.2.1 ?_
        refine am_s_isub dc276_6.1.2.2 ?_
        refine am_s_ic_ne dc276_6.2.1.1 rfl (fun c4 => ?_) (fun c4 => ?_)
        · refine am_s_iconst am_cc1 dc276_6.2.2.2 ?_
          refine am_s_iadd dc276_7.1.1.1 ?_
          refine am_s_istore (ls' := [some (.ref 163), some (.int x1), some (.int x2), some (.int (x3 + 1)), some (.int x7), some (.int x5), some (.int (x6 + 1)), some (.int x7)]) rfl rfl dc276_7.1.1.2 ?_
          refine am_s_iload rfl dc276_7.1.2.1 ?_
          refine am_s_istore (ls' := [some (.ref 163), some (.int x1), some (.int x2), some (.int (x3 + 1)), some (.int x7), some (.int x7), some (.int (x6 + 1)), some (.int x7)]) rfl rfl dc276_7.1.2.2 ?_
          refine am_s_iinc (ls' := [some (.ref 163), some (.int x1), some (.int x2), some (.int (x3 + 1)), some (.int x7), some (.int x7), some (.int (x6 + 1)), some (.int (x7 + 1))]) am_cc1 rfl rfl dc276_7.2.1.1 ?_
          refine am_s_goto rfl dc276_7.2.1.2 ?_
          exact (vi_f (vi_t (vi_t (vi_f q c1).2 (Decidable.not_not.mp c2)) (Decidable.not_not.mp c3)) c4)
        · refine am_s_iconst am_cc0 dc276_6.2.1.2 ?_
          refine am_s_goto rfl dc276_6.2.2.1 ?_
          refine am_s_iadd dc276_7.1.1.1 ?_
          refine am_s_istore (ls' := [some (.ref 163), some (.int x1), some (.int x2), some (.int (x3 + 1)), some (.int x7), some (.int x5), some (.int (x6 + 0)), some (.int x7)]) rfl rfl dc276_7.1.1.2 ?_
          refine am_s_iload rfl dc276_7.1.2.1 ?_
          refine am_s_istore (ls' := [some (.ref 163), some (.int x1), some (.int x2), some (.int (x3 + 1)), some (.int x7), some (.int x7), some (.int (x6 + 0)), some (.int x7)]) rfl rfl dc276_7.1.2.2 ?_
          refine am_s_iinc (ls' := [some (.ref 163), some (.int x1), some (.int x2), some (.int (x3 + 1)), some (.int x7), some (.int x7), some (.int (x6 + 0)), some (.int (x7 + 1))]) am_cc1 rfl rfl dc276_7.2.1.1 ?_
          refine am_s_goto rfl dc276_7.2.1.2 ?_
          exact (vi_t (vi_t (vi_t (vi_f q c1).2 (Decidable.not_not.mp c2)) (Decidable.not_not.mp c3)) (Decidable.not_not.mp c4))
theorem v276_10 {sc : Option (Nat × (Nat → Int32))} {d k n : Nat} {P : am_O → Prop} {I : am_I} {J : am_J} {Pf : am_R} (hp : am_PF Pf) {x1 : Int32} {x2 : Int32} {l3 : Option Value} {l4 : Option Value} {l5 : Option Value} {l6 : Option Value} {l7 : Option Value} {s0 : Int32} (q : (if s0 = 0 then (P (.inl (some (.int 0)), (am_SH, I, J, Pf), k, n)) else (if x2 < 0 then (if (I 163 0) = 0 then (P (.inl (some (.int 0)), (am_SH, am_u (am_u I 163 0 2) 164 1 ((I 164 1) + 1), J, Pf), k, n)) else (P (.inl (some (.int 0)), (am_SH, I, J, Pf), k, n))) else (if 3 < x2 then (if (I 163 0) = 0 then (P (.inl (some (.int 0)), (am_SH, am_u (am_u I 163 0 2) 164 1 ((I 164 1) + 1), J, Pf), k, n)) else (P (.inl (some (.int 0)), (am_SH, I, J, Pf), k, n))) else (if (I 163 0) = 0 then (am_go sc (d + 1) 276 (45, [some (.ref 163), some (.int x1), some (.int x2), some (.int 0), some (.int (-1)), some (.int (-1)), some (.int 0), some (.int 32)], [], (am_SH, I, J, Pf), k, n) P) else (P (.inl (some (.int 0)), (am_SH, I, J, Pf), k, n))))))) : am_go sc (d + 1) 276 (10, [some (.ref 163), some (.int x1), some (.int x2), l3, l4, l5, l6, l7], [.int s0], (am_SH, I, J, Pf), k, n) P := by
  refine am_s_if_eq dc276_0.2.2.1 rfl (fun c1 => ?_) (fun c1 => ?_)
  · refine am_s_iconst am_cc0 dc276_2.1.1.1 ?_
    exact am_s_ireturn dc276_2.1.1.2 rfl ((vi_t q c1))
  · refine am_s_aload_n rfl dc276_0.2.2.2 ?_
    refine am_s_iload_n rfl dc276_1.1.1.1 ?_
    refine am_s_iconst am_cc0 dc276_1.1.1.2 ?_
    refine am_s_iconst am_cc3 dc276_1.1.2.1 ?_
    refine am_s_static dc276_1.1.2.2 rfl rfl rfl (am_mth_of rfl rfl ?_)
    refine am_s_iload_n rfl dc190_0.1.1.1 ?_
    refine am_s_iload_n rfl dc190_0.1.1.2 ?_
    refine am_s_ic_lt dc190_0.1.2.1 rfl (fun c2 => ?_) (fun c2 => ?_)
    · refine am_s_iconst am_cc0 dc190_1.1 ?_
      refine am_s_zreturn dc190_1.2 rfl (by decide) (am_bkI ?_)
      refine am_s_iconst am_cc2 dc276_1.2.1.1 ?_
      refine am_s_iconst am_cc1 dc276_1.2.1.2 ?_
      refine am_s_virtual true dc276_1.2.2.1 rfl (by decide) rfl rfl rfl (am_mth_of rfl rfl ?_)
      refine am_s_iload_n rfl dc189_0.1.1.1 ?_
      refine am_s_if_ne dc189_0.1.1.2 rfl (fun z => absurd z (by decide)) (fun _ => ?_)
      refine am_s_aload_n rfl dc189_0.1.2.1 ?_
      refine am_x_getI (x := I 163 0) dc189_0.1.2.2 rfl rfl (Or.inl rfl) rfl ?_
      refine am_s_if_ne dc189_0.2.1.1 rfl (fun c3 => ?_) (fun c3 => ?_)
      · refine am_s_aload_n rfl dc189_2.1.1 ?_
        refine am_x_getI (x := I 163 0) dc189_2.1.2.1 rfl rfl (Or.inl rfl) rfl ?_
        refine am_s_if_ne dc189_2.1.2.2 rfl (fun _ => ?_) (fun z => absurd c3 z)
        refine am_s_iconst am_cc0 dc189_2.2.2.1 ?_
        refine am_s_zreturn dc189_2.2.2.2 rfl (by decide) (am_bkI ?_)
        refine am_s_if_ne dc276_1.2.2.2 rfl (fun z => absurd z (by decide)) (fun _ => ?_)
        refine am_s_iconst am_cc0 dc276_2.1.1.1 ?_
        exact am_s_ireturn dc276_2.1.1.2 rfl ((vi_f (vi_t (vi_f q c1) c2) c3))
      · refine am_s_aload_n rfl dc189_0.2.1.2 ?_
        refine am_s_iload_n rfl dc189_0.2.2.1 ?_
        refine am_s_putI dc189_0.2.2.2 rfl rfl rfl rfl ?_
        refine am_s_aload_n rfl dc189_1.1.1.1 ?_
        refine am_s_getR (r := 164) dc189_1.1.1.2 rfl rfl rfl (hp _ _ _ rfl) ?_
        refine am_s_iload_n rfl dc189_1.1.2.1 ?_
        refine am_s_dup2 rfl rfl dc189_1.1.2.2 ?_
        refine am_x_iaload (x := I 164 1) dc189_1.2.1.1 rfl (by decide +kernel) am_cN1 rfl ?_
        refine am_s_iconst am_cc1 dc189_1.2.1.2 ?_
        refine am_s_iadd dc189_1.2.2.1 ?_
        refine am_s_iastore dc189_1.2.2.2 rfl (by decide +kernel) am_cN1 ?_
        refine am_s_aload_n rfl dc189_2.1.1 ?_
        refine am_x_getI (x := 2) dc189_2.1.2.1 rfl rfl (Or.inl rfl) rfl ?_
        refine am_s_if_ne dc189_2.1.2.2 rfl (fun _ => ?_) (fun z => absurd z (by decide))
        refine am_s_iconst am_cc0 dc189_2.2.2.1 ?_
        refine am_s_zreturn dc189_2.2.2.2 rfl (by decide) (am_bkI ?_)
        refine am_s_if_ne dc276_1.2.2.2 rfl (fun z => absurd z (by decide)) (fun _ => ?_)
        refine am_s_iconst am_cc0 dc276_2.1.1.1 ?_
        exact am_s_ireturn dc276_2.1.1.2 rfl ((vi_t (vi_t (vi_f q c1) c2) (Decidable.not_not.mp c3)))
    · refine am_s_iload_n rfl dc190_0.1.2.2 ?_
      refine am_s_iload_n rfl dc190_0.2.1.1 ?_
      refine am_s_ic_gt dc190_0.2.1.2 rfl (fun c3 => ?_) (fun c3 => ?_)
      · refine am_s_iconst am_cc0 dc190_1.1 ?_
        refine am_s_zreturn dc190_1.2 rfl (by decide) (am_bkI ?_)
        refine am_s_iconst am_cc2 dc276_1.2.1.1 ?_
        refine am_s_iconst am_cc1 dc276_1.2.1.2 ?_
        refine am_s_virtual true dc276_1.2.2.1 rfl (by decide) rfl rfl rfl (am_mth_of rfl rfl ?_)
        refine am_s_iload_n rfl dc189_0.1.1.1 ?_
        refine am_s_if_ne dc189_0.1.1.2 rfl (fun z => absurd z (by decide)) (fun _ => ?_)
        refine am_s_aload_n rfl dc189_0.1.2.1 ?_
        refine am_x_getI (x := I 163 0) dc189_0.1.2.2 rfl rfl (Or.inl rfl) rfl ?_
        refine am_s_if_ne dc189_0.2.1.1 rfl (fun c4 => ?_) (fun c4 => ?_)
        · refine am_s_aload_n rfl dc189_2.1.1 ?_
          refine am_x_getI (x := I 163 0) dc189_2.1.2.1 rfl rfl (Or.inl rfl) rfl ?_
          refine am_s_if_ne dc189_2.1.2.2 rfl (fun _ => ?_) (fun z => absurd c4 z)
          refine am_s_iconst am_cc0 dc189_2.2.2.1 ?_
          refine am_s_zreturn dc189_2.2.2.2 rfl (by decide) (am_bkI ?_)
          refine am_s_if_ne dc276_1.2.2.2 rfl (fun z => absurd z (by decide)) (fun _ => ?_)
          refine am_s_iconst am_cc0 dc276_2.1.1.1 ?_
          exact am_s_ireturn dc276_2.1.1.2 rfl ((vi_f (vi_t (vi_f (vi_f q c1) c2) c3) c4))
        · refine am_s_aload_n rfl dc189_0.2.1.2 ?_
          refine am_s_iload_n rfl dc189_0.2.2.1 ?_
          refine am_s_putI dc189_0.2.2.2 rfl rfl rfl rfl ?_
          refine am_s_aload_n rfl dc189_1.1.1.1 ?_
          refine am_s_getR (r := 164) dc189_1.1.1.2 rfl rfl rfl (hp _ _ _ rfl) ?_
          refine am_s_iload_n rfl dc189_1.1.2.1 ?_
          refine am_s_dup2 rfl rfl dc189_1.1.2.2 ?_
          refine am_x_iaload (x := I 164 1) dc189_1.2.1.1 rfl (by decide +kernel) am_cN1 rfl ?_
          refine am_s_iconst am_cc1 dc189_1.2.1.2 ?_
          refine am_s_iadd dc189_1.2.2.1 ?_
          refine am_s_iastore dc189_1.2.2.2 rfl (by decide +kernel) am_cN1 ?_
          refine am_s_aload_n rfl dc189_2.1.1 ?_
          refine am_x_getI (x := 2) dc189_2.1.2.1 rfl rfl (Or.inl rfl) rfl ?_
          refine am_s_if_ne dc189_2.1.2.2 rfl (fun _ => ?_) (fun z => absurd z (by decide))
          refine am_s_iconst am_cc0 dc189_2.2.2.1 ?_
          refine am_s_zreturn dc189_2.2.2.2 rfl (by decide) (am_bkI ?_)
          refine am_s_if_ne dc276_1.2.2.2 rfl (fun z => absurd z (by decide)) (fun _ => ?_)
          refine am_s_iconst am_cc0 dc276_2.1.1.1 ?_
          exact am_s_ireturn dc276_2.1.1.2 rfl ((vi_t (vi_t (vi_f (vi_f q c1) c2) c3) (Decidable.not_not.mp c4)))
      · refine am_s_iconst am_cc1 dc190_0.2.2.1 ?_
        refine am_s_goto rfl dc190_0.2.2.2 ?_
        refine am_s_zreturn dc190_1.2 rfl (by decide) (am_bkI ?_)
        refine am_s_iconst am_cc2 dc276_1.2.1.1 ?_
        refine am_s_iconst am_cc1 dc276_1.2.1.2 ?_
        refine am_s_virtual true dc276_1.2.2.1 rfl (by decide) rfl rfl rfl (am_mth_of rfl rfl ?_)
        refine am_s_iload_n rfl dc189_0.1.1.1 ?_
        refine am_s_if_ne dc189_0.1.1.2 rfl (fun _ => ?_) (fun z => absurd z (by decide))
        refine am_s_aload_n rfl dc189_2.1.1 ?_
        refine am_x_getI (x := I 163 0) dc189_2.1.2.1 rfl rfl (Or.inl rfl) rfl ?_
        refine am_s_if_ne dc189_2.1.2.2 rfl (fun c4 => ?_) (fun c4 => ?_)
        · refine am_s_iconst am_cc0 dc189_2.2.2.1 ?_
          refine am_s_zreturn dc189_2.2.2.2 rfl (by decide) (am_bkI ?_)
          refine am_s_if_ne dc276_1.2.2.2 rfl (fun z => absurd z (by decide)) (fun _ => ?_)
          refine am_s_iconst am_cc0 dc276_2.1.1.1 ?_
          exact am_s_ireturn dc276_2.1.1.2 rfl ((vi_f (vi_f (vi_f (vi_f q c1) c2) c3) c4))
        · refine am_s_iconst am_cc1 dc189_2.2.1.1 ?_
          refine am_s_goto rfl dc189_2.2.1.2 ?_
          refine am_s_zreturn dc189_2.2.2.2 rfl (by decide) (am_bkI ?_)
          refine am_s_if_ne dc276_1.2.2.2 rfl (fun _ => ?_) (fun z => absurd z (by decide))
          refine am_s_iconst am_cc0 dc276_2.1.2.1 ?_
          refine am_s_istore_n (ls' := [some (.ref 163), some (.int x1), some (.int x2), some (.int 0), l4, l5, l6, l7]) rfl rfl dc276_2.1.2.2 ?_
          refine am_s_iconst am_ccm1 dc276_2.2.1.1 ?_
          refine am_s_istore (ls' := [some (.ref 163), some (.int x1), some (.int x2), some (.int 0), some (.int (-1)), l5, l6, l7]) rfl rfl dc276_2.2.1.2 ?_
          refine am_s_iconst am_ccm1 dc276_2.2.2.1 ?_
          refine am_s_istore (ls' := [some (.ref 163), some (.int x1), some (.int x2), some (.int 0), some (.int (-1)), some (.int (-1)), l6, l7]) rfl rfl dc276_2.2.2.2 ?_
          refine am_s_iconst am_cc0 dc276_3.1.1.1 ?_
          refine am_s_istore (ls' := [some (.ref 163), some (.int x1), some (.int x2), some (.int 0), some (.int (-1)), some (.int (-1)), some (.int 0), l7]) rfl rfl dc276_3.1.1.2 ?_
          refine am_s_bipush am_cb32 dc276_3.1.2.1 ?_
          refine am_s_istore (ls' := [some (.ref 163), some (.int x1), some (.int x2), some (.int 0), some (.int (-1)), some (.int (-1)), some (.int 0), some (.int 32)]) rfl rfl dc276_3.1.2.2 ?_
          exact (vi_t (vi_f (vi_f (vi_f q c1) c2) c3) (Decidable.not_not.mp c4))
-- holds (II)Z
theorem v277_0 {sc : Option (Nat × (Nat → Int32))} {d k n : Nat} {P : am_O → Prop} {I : am_I} {J : am_J} {Pf : am_R} (hp : am_PF Pf) {x1 : Int32} {x2 : Int32} (q : (am_mth d 275 [.ref 163, .int x1] (am_SH, am_u I 163 0 0, J, Pf) (am_af sc d 277 7 [some (.ref 163), some (.int x1), some (.int x2)] [.int x1, .ref 163] [] (am_SH, am_u I 163 0 0, J, Pf) k n true P))) : am_go sc d 277 (0, [some (.ref 163), some (.int x1), some (.int x2)], [], (am_SH, I, J, Pf), k, n) P := by
  refine am_s_aload_n rfl dc277_0.1.1.1 ?_
  refine am_s_iconst am_cc0 dc277_0.1.1.2 ?_
  refine am_s_putI dc277_0.1.2.1 rfl rfl rfl rfl ?_
  refine am_s_aload_n rfl dc277_0.1.2.2 ?_
  refine am_s_iload_n rfl dc277_0.2.1.1 ?_
  exact am_s_virtual true dc277_0.2.1.2 rfl (by decide) rfl rfl rfl (q)
theorem v277_10 {sc : Option (Nat × (Nat → Int32))} {d k n : Nat} {P : am_O → Prop} {I : am_I} {J : am_J} {Pf : am_R} (hp : am_PF Pf) {x1 : Int32} {x2 : Int32} {s0 : Int32} (q : (if s0 = 0 then (P (.inl (some (.int 0)), (am_SH, I, J, Pf), k, n)) else (if x2 < 32 then (if (I 163 0) = 0 then (P (.inl (some (.int 0)), (am_SH, am_u (am_u I 163 0 2) 164 1 ((I 164 1) + 1), J, Pf), k, n)) else (P (.inl (some (.int 0)), (am_SH, I, J, Pf), k, n))) else (if 127 ≤ x2 then (if (I 163 0) = 0 then (P (.inl (some (.int 0)), (am_SH, am_u (am_u I 163 0 2) 164 1 ((I 164 1) + 1), J, Pf), k, n)) else (P (.inl (some (.int 0)), (am_SH, I, J, Pf), k, n))) else (if (I 163 0) = 0 then (am_in ((8 + (3 * x1)) + ((x2 - 32) / 32)) 1040 = true) ∧ (if (((I 167 (Int32.toNatClampNeg ((8 + (3 * x1)) + ((x2 - 32) / 32)))) >>> (((x2 - 32) - (x2 - 32) / 32 * 32) &&& 31)) &&& 1) = 1 then (P (.inl (some (.int 1)), (am_SH, I, J, Pf), k, n)) else (P (.inl (some (.int 0)), (am_SH, I, J, Pf), k, n))) else (P (.inl (some (.int 0)), (am_SH, I, J, Pf), k, n))))))) : am_go sc (d + 1) 277 (10, [some (.ref 163), some (.int x1), some (.int x2)], [.int s0], (am_SH, I, J, Pf), k, n) P := by
  refine am_s_if_eq dc277_0.2.2.1 rfl (fun c1 => ?_) (fun c1 => ?_)
  · refine am_s_iconst am_cc0 dc277_1.2.2.2 ?_
    exact am_s_zreturn dc277_2.1.1.1 rfl (by decide) ((vi_t q c1))
  · refine am_s_aload_n rfl dc277_0.2.2.2 ?_
    refine am_s_aload_n rfl dc277_1.1.1.1 ?_
    refine am_s_iload_n rfl dc277_1.1.1.2 ?_
    refine am_s_virtual true dc277_1.1.2.1 rfl (by decide) rfl rfl rfl (am_mth_of rfl rfl ?_)
    refine am_s_iload_n rfl dc211_0.1.1.1 ?_
    refine am_s_bipush am_cb32 dc211_0.1.1.2 ?_
    refine am_s_ic_lt dc211_0.1.2.1 rfl (fun c2 => ?_) (fun c2 => ?_)
    · refine am_s_iconst am_cc0 dc211_1.1 ?_
      refine am_s_zreturn dc211_1.2 rfl (by decide) (am_bkI ?_)
      refine am_s_iconst am_cc2 dc277_1.1.2.2 ?_
      refine am_s_iconst am_cc1 dc277_1.2.1.1 ?_
      refine am_s_virtual true dc277_1.2.1.2 rfl (by decide) rfl rfl rfl (am_mth_of rfl rfl ?_)
      refine am_s_iload_n rfl dc189_0.1.1.1 ?_
      refine am_s_if_ne dc189_0.1.1.2 rfl (fun z => absurd z (by decide)) (fun _ => ?_)
      refine am_s_aload_n rfl dc189_0.1.2.1 ?_
      refine am_x_getI (x := I 163 0) dc189_0.1.2.2 rfl rfl (Or.inl rfl) rfl ?_
      refine am_s_if_ne dc189_0.2.1.1 rfl (fun c3 => ?_) (fun c3 => ?_)
      · refine am_s_aload_n rfl dc189_2.1.1 ?_
        refine am_x_getI (x := I 163 0) dc189_2.1.2.1 rfl rfl (Or.inl rfl) rfl ?_
        refine am_s_if_ne dc189_2.1.2.2 rfl (fun _ => ?_) (fun z => absurd c3 z)
        refine am_s_iconst am_cc0 dc189_2.2.2.1 ?_
        refine am_s_zreturn dc189_2.2.2.2 rfl (by decide) (am_bkI ?_)
        refine am_s_if_ne dc277_1.2.2.1 rfl (fun z => absurd z (by decide)) (fun _ => ?_)
        refine am_s_iconst am_cc0 dc277_1.2.2.2 ?_
        exact am_s_zreturn dc277_2.1.1.1 rfl (by decide) ((vi_f (vi_t (vi_f q c1) c2) c3))
      · refine am_s_aload_n rfl dc189_0.2.1.2 ?_
        refine am_s_iload_n rfl dc189_0.2.2.1 ?_
        refine am_s_putI dc189_0.2.2.2 rfl rfl rfl rfl ?_
        refine am_s_aload_n rfl dc189_1.1.1.1 ?_
        refine am_s_getR (r := 164) dc189_1.1.1.2 rfl rfl rfl (hp _ _ _ rfl) ?_
        refine am_s_iload_n rfl dc189_1.1.2.1 ?_
        refine am_s_dup2 rfl rfl dc189_1.1.2.2 ?_
        refine am_x_iaload (x := I 164 1) dc189_1.2.1.1 rfl (by decide +kernel) am_cN1 rfl ?_
        refine am_s_iconst am_cc1 dc189_1.2.1.2 ?_
        refine am_s_iadd dc189_1.2.2.1 ?_
        refine am_s_iastore dc189_1.2.2.2 rfl (by decide +kernel) am_cN1 ?_
        refine am_s_aload_n rfl dc189_2.1.1 ?_
        refine am_x_getI (x := 2) dc189_2.1.2.1 rfl rfl (Or.inl rfl) rfl ?_
        refine am_s_if_ne dc189_2.1.2.2 rfl (fun _ => ?_) (fun z => absurd z (by decide))
        refine am_s_iconst am_cc0 dc189_2.2.2.1 ?_
        refine am_s_zreturn dc189_2.2.2.2 rfl (by decide) (am_bkI ?_)
        refine am_s_if_ne dc277_1.2.2.1 rfl (fun z => absurd z (by decide)) (fun _ => ?_)
        refine am_s_iconst am_cc0 dc277_1.2.2.2 ?_
        exact am_s_zreturn dc277_2.1.1.1 rfl (by decide) ((vi_t (vi_t (vi_f q c1) c2) (Decidable.not_not.mp c3)))
    · refine am_s_iload_n rfl dc211_0.1.2.2 ?_
      refine am_s_bipush am_cb127 dc211_0.2.1.1 ?_
      refine am_s_ic_ge dc211_0.2.1.2 rfl (fun c3 => ?_) (fun c3 => ?_)
      · refine am_s_iconst am_cc0 dc211_1.1 ?_
        refine am_s_zreturn dc211_1.2 rfl (by decide) (am_bkI ?_)
        refine am_s_iconst am_cc2 dc277_1.1.2.2 ?_
        refine am_s_iconst am_cc1 dc277_1.2.1.1 ?_
        refine am_s_virtual true dc277_1.2.1.2 rfl (by decide) rfl rfl rfl (am_mth_of rfl rfl ?_)
        refine am_s_iload_n rfl dc189_0.1.1.1 ?_
        refine am_s_if_ne dc189_0.1.1.2 rfl (fun z => absurd z (by decide)) (fun _ => ?_)
        refine am_s_aload_n rfl dc189_0.1.2.1 ?_
        refine am_x_getI (x := I 163 0) dc189_0.1.2.2 rfl rfl (Or.inl rfl) rfl ?_
        refine am_s_if_ne dc189_0.2.1.1 rfl (fun c4 => ?_) (fun c4 => ?_)
        · refine am_s_aload_n rfl dc189_2.1.1 ?_
          refine am_x_getI (x := I 163 0) dc189_2.1.2.1 rfl rfl (Or.inl rfl) rfl ?_
          refine am_s_if_ne dc189_2.1.2.2 rfl (fun _ => ?_) (fun z => absurd c4 z)
          refine am_s_iconst am_cc0 dc189_2.2.2.1 ?_
          refine am_s_zreturn dc189_2.2.2.2 rfl (by decide) (am_bkI ?_)
          refine am_s_if_ne dc277_1.2.2.1 rfl (fun z => absurd z (by decide)) (fun _ => ?_)
          refine am_s_iconst am_cc0 dc277_1.2.2.2 ?_
          exact am_s_zreturn dc277_2.1.1.1 rfl (by decide) ((vi_f (vi_t (vi_f (vi_f q c1) c2) c3) c4))
        · refine am_s_aload_n rfl dc189_0.2.1.2 ?_
          refine am_s_iload_n rfl dc189_0.2.2.1 ?_
          refine am_s_putI dc189_0.2.2.2 rfl rfl rfl rfl ?_
          refine am_s_aload_n rfl dc189_1.1.1.1 ?_
          refine am_s_getR (r := 164) dc189_1.1.1.2 rfl rfl rfl (hp _ _ _ rfl) ?_
          refine am_s_iload_n rfl dc189_1.1.2.1 ?_
          refine am_s_dup2 rfl rfl dc189_1.1.2.2 ?_
          refine am_x_iaload (x := I 164 1) dc189_1.2.1.1 rfl (by decide +kernel) am_cN1 rfl ?_
          refine am_s_iconst am_cc1 dc189_1.2.1.2 ?_
          refine am_s_iadd dc189_1.2.2.1 ?_
          refine am_s_iastore dc189_1.2.2.2 rfl (by decide +kernel) am_cN1 ?_
          refine am_s_aload_n rfl dc189_2.1.1 ?_
          refine am_x_getI (x := 2) dc189_2.1.2.1 rfl rfl (Or.inl rfl) rfl ?_
          refine am_s_if_ne dc189_2.1.2.2 rfl (fun _ => ?_) (fun z => absurd z (by decide))
          refine am_s_iconst am_cc0 dc189_2.2.2.1 ?_
          refine am_s_zreturn dc189_2.2.2.2 rfl (by decide) (am_bkI ?_)
          refine am_s_if_ne dc277_1.2.2.1 rfl (fun z => absurd z (by decide)) (fun _ => ?_)
          refine am_s_iconst am_cc0 dc277_1.2.2.2 ?_
          exact am_s_zreturn dc277_2.1.1.1 rfl (by decide) ((vi_t (vi_t (vi_f (vi_f q c1) c2) c3) (Decidable.not_not.mp c4)))
      · refine am_s_iconst am_cc1 dc211_0.2.2.1 ?_
        refine am_s_goto rfl dc211_0.2.2.2 ?_
        refine am_s_zreturn dc211_1.2 rfl (by decide) (am_bkI ?_)
        refine am_s_iconst am_cc2 dc277_1.1.2.2 ?_
        refine am_s_iconst am_cc1 dc277_1.2.1.1 ?_
        refine am_s_virtual true dc277_1.2.1.2 rfl (by decide) rfl rfl rfl (am_mth_of rfl rfl ?_)
        refine am_s_iload_n rfl dc189_0.1.1.1 ?_
        refine am_s_if_ne dc189_0.1.1.2 rfl (fun _ => ?_) (fun z => absurd z (by decide))
        refine am_s_aload_n rfl dc189_2.1.1 ?_
        refine am_x_getI (x := I 163 0) dc189_2.1.2.1 rfl rfl (Or.inl rfl) rfl ?_
        refine am_s_if_ne dc189_2.1.2.2 rfl (fun c4 => ?_) (fun c4 => ?_)
        · refine am_s_iconst am_cc0 dc189_2.2.2.1 ?_
          refine am_s_zreturn dc189_2.2.2.2 rfl (by decide) (am_bkI ?_)
          refine am_s_if_ne dc277_1.2.2.1 rfl (fun z => absurd z (by decide)) (fun _ => ?_)
          refine am_s_iconst am_cc0 dc277_1.2.2.2 ?_
          exact am_s_zreturn dc277_2.1.1.1 rfl (by decide) ((vi_f (vi_f (vi_f (vi_f q c1) c2) c3) c4))
        · refine am_s_iconst am_cc1 dc189_2.2.1.1 ?_
          refine am_s_goto rfl dc189_2.2.1.2 ?_
          refine am_s_zreturn dc189_2.2.2.2 rfl (by decide) (am_bkI ?_)
          refine am_s_if_ne dc277_1.2.2.1 rfl (fun _ => ?_) (fun z => absurd z (by decide))
          refine am_s_aload_n rfl dc277_2.1.1.2 ?_
          refine am_s_aload_n rfl dc277_2.1.2.1 ?_
          refine am_s_getR (r := 167) dc277_2.1.2.2 rfl rfl rfl (hp _ _ _ rfl) ?_
          refine am_s_iload_n rfl dc277_2.2.1.1 ?_
          refine am_s_iload_n rfl dc277_2.2.1.2 ?_
          refine am_s_virtual true dc277_2.2.2.1 rfl (by decide) rfl rfl rfl (am_mth_of rfl rfl ?_)
          refine am_s_iload_n rfl dc221_0.1.1.1 ?_
          refine am_s_bipush am_cb32 dc221_0.1.1.2 ?_
          refine am_s_isub dc221_0.1.2.1 ?_
          refine am_s_istore (ls' := [some (.ref 163), some (.ref 167), some (.int x1), some (.int x2), some (.int (x2 - 32))]) rfl rfl dc221_0.1.2.2 ?_
          refine am_s_aload_n rfl dc221_0.2.1.1 ?_
          refine am_s_bipush am_cb8 dc221_0.2.1.2 ?_
          refine am_s_iconst am_cc3 dc221_0.2.2.1 ?_
          refine am_s_iload_n rfl dc221_0.2.2.2 ?_
          refine am_s_imul dc221_1.1.1.1 ?_
          refine am_s_iadd dc221_1.1.1.2 ?_
          refine am_s_iload rfl dc221_1.1.2.1 ?_
          refine am_s_bipush am_cb32 dc221_1.1.2.2 ?_
          refine am_s_idiv (by decide) dc221_1.2.1.1 ?_
          refine am_s_iadd dc221_1.2.1.2 ?_
          refine am_x_iaload (x := I 167 (Int32.toNatClampNeg ((8 + (3 * x1)) + ((x2 - 32) / 32)))) dc221_1.2.2.1 rfl ((vi_t (vi_f (vi_f (vi_f q c1) c2) c3) (Decidable.not_not.mp c4)).1) rfl rfl ?_
          refine am_s_iload rfl dc221_1.2.2.2 ?_
          refine am_s_bipush am_cb32 dc221_2.1.1.1 ?_
          refine am_s_irem (by decide) dc221_2.1.1.2 ?_
          refine am_s_ishr dc221_2.1.2.1 ?_
          refine am_s_iconst am_cc1 dc221_2.1.2.2 ?_
          refine am_s_iand dc221_2.2.1.1 ?_
          refine am_s_iconst am_cc1 dc221_2.2.1.2 ?_
          refine am_s_ic_ne dc221_2.2.2.1 rfl (fun c5 => ?_) (fun c5 => ?_)
          · refine am_s_iconst am_cc0 dc221_3.2.1 ?_
            refine am_s_zreturn dc221_3.2.2 rfl (by decide) (am_bkI ?_)
            exact am_s_zreturn dc277_2.2.2.2 rfl (by decide) ((vi_f (vi_t (vi_f (vi_f (vi_f q c1) c2) c3) (Decidable.not_not.mp c4)).2 c5))
          · refine am_s_iconst am_cc1 dc221_2.2.2.2 ?_
            refine am_s_goto rfl dc221_3.1 ?_
            refine am_s_zreturn dc221_3.2.2 rfl (by decide) (am_bkI ?_)
            exact am_s_zreturn dc277_2.2.2.2 rfl (by decide) ((vi_t (vi_t (vi_f (vi_f (vi_f q c1) c2) c3) (Decidable.not_not.mp c4)).2 (Decidable.not_not.mp c5)))
-- beside (II)I
theorem v278_0 {sc : Option (Nat × (Nat → Int32))} {d k n : Nat} {P : am_O → Prop} {I : am_I} {J : am_J} {Pf : am_R} (hp : am_PF Pf) {x1 : Int32} {x2 : Int32} {l3 : Option Value} {l4 : Option Value} {l5 : Option Value} {l6 : Option Value} {l7 : Option Value} {l8 : Option Value} (q : (am_mth d 275 [.ref 163, .int x1] (am_SH, am_u I 163 0 0, J, Pf) (am_af sc d 278 7 [some (.ref 163), some (.int x1), some (.int x2), l3, l4, l5, l6, l7, l8] [.int x1, .ref 163] [] (am_SH, am_u I 163 0 0, J, Pf) k n true P))) : am_go sc d 278 (0, [some (.ref 163), some (.int x1), some (.int x2), l3, l4, l5, l6, l7, l8], [], (am_SH, I, J, Pf), k, n) P := by
  refine am_s_aload_n rfl dc278_0.1.1.1 ?_
  refine am_s_iconst am_cc0 dc278_0.1.1.2 ?_
  refine am_s_putI dc278_0.1.2.1 rfl rfl rfl rfl ?_
  refine am_s_aload_n rfl dc278_0.1.2.2 ?_
  refine am_s_iload_n rfl dc278_0.2.1.1 ?_
  exact am_s_virtual true dc278_0.2.1.2 rfl (by decide) rfl rfl rfl (q)
theorem v278_35 {sc : Option (Nat × (Nat → Int32))} {d k n : Nat} {P : am_O → Prop} {I : am_I} {J : am_J} {Pf : am_R} (hp : am_PF Pf) {x1 : Int32} {x2 : Int32} {x3 : Int32} {x4 : Int32} {x5 : Int32} {x6 : Int32} {l7 : Option Value} {l8 : Option Value} (q : (if 127 ≤ x6 then (if (x4 + x5) = 0 then (P (.inl (some (.int 1)), (am_SH, I, J, Pf), k, n)) else (if x3 = 0 then (P (.inl (some (.int 0)), (am_SH, I, J, Pf), k, n)) else (if x4 = 0 then (P (.inl (some (.int 2)), (am_SH, I, J, Pf), k, n)) else (if x5 = 0 then (P (.inl (some (.int 3)), (am_SH, I, J, Pf), k, n)) else (P (.inl (some (.int 4)), (am_SH, I, J, Pf), k, n)))))) else (am_in ((8 + (3 * x1)) + ((x6 - 32) / 32)) 1040 = true) ∧ (if (((I 167 (Int32.toNatClampNeg ((8 + (3 * x1)) + ((x6 - 32) / 32)))) >>> (((x6 - 32) - (x6 - 32) / 32 * 32) &&& 31)) &&& 1) = 1 then (am_in ((8 + (3 * x2)) + ((x6 - 32) / 32)) 1040 = true) ∧ (if (((I 167 (Int32.toNatClampNeg ((8 + (3 * x2)) + ((x6 - 32) / 32)))) >>> (((x6 - 32) - (x6 - 32) / 32 * 32) &&& 31)) &&& 1) = 1 then (am_go sc (d + 1) 278 (35, [some (.ref 163), some (.int x1), some (.int x2), some (.int (x3 + 1)), some (.int (x4 + 0)), some (.int (x5 + 0)), some (.int (x6 + 1)), some (.int 1), some (.int 1)], [], (am_SH, I, J, Pf), k, n) P) else (am_go sc (d + 1) 278 (35, [some (.ref 163), some (.int x1), some (.int x2), some (.int (x3 + 0)), some (.int (x4 + 1)), some (.int (x5 + 0)), some (.int (x6 + 1)), some (.int 1), some (.int 0)], [], (am_SH, I, J, Pf), k, n) P)) else (am_in ((8 + (3 * x2)) + ((x6 - 32) / 32)) 1040 = true) ∧ (if (((I 167 (Int32.toNatClampNeg ((8 + (3 * x2)) + ((x6 - 32) / 32)))) >>> (((x6 - 32) - (x6 - 32) / 32 * 32) &&& 31)) &&& 1) = 1 then (am_go sc (d + 1) 278 (35, [some (.ref 163), some (.int x1), some (.int x2), some (.int (x3 + 0)), some (.int (x4 + 0)), some (.int (x5 + 1)), some (.int (x6 + 1)), some (.int 0), some (.int 1)], [], (am_SH, I, J, Pf), k, n) P) else (am_go sc (d + 1) 278 (35, [some (.ref 163), some (.int x1), some (.int x2), some (.int (x3 + 0)), some (.int (x4 + 0)), some (.int (x5 + 0)), some (.int (x6 + 1)), some (.int 0), some (.int 0)], [], (am_SH, I, J, Pf), k, n) P))))) : am_go sc (d + 1) 278 (35, [some (.ref 163), some (.int x1), some (.int x2), some (.int x3), some (.int x4), some (.int x5), some (.int x6), l7, l8], [], (am_SH, I, J, Pf), k, n) P := by
  refine am_s_iload rfl dc278_2.2.1.2 ?_
  refine am_s_bipush am_cb127 dc278_2.2.2.1 ?_
  refine am_s_ic_ge dc278_2.2.2.2 rfl (fun c1 => ?_) (fun c1 => ?_)
  · refine am_s_iload rfl dc278_8.2.2.1 ?_
    refine am_s_iload rfl dc278_8.2.2.2 ?_
    refine am_s_iadd dc278_9.1.1.1 ?_
    refine am_s_if_ne dc278_9.1.1.2 rfl (fun c2 => ?_) (fun c2 => ?_)
    · refine am_s_iload_n rfl dc278_9.2.1.1 ?_
      refine am_s_if_ne dc278_9.2.1.2 rfl (fun c3 => ?_) (fun c3 => ?_)
      · refine am_s_iload rfl dc278_10.1.1.1 ?_
        refine am_s_if_ne dc278_10.1.1.2 rfl (fun c4 => ?_) (fun c4 => ?_)
        · refine am_s_iload rfl dc278_10.2.1.1 ?_
          refine am_s_if_ne dc278_10.2.1.2 rfl (fun c5 => ?_) (fun c5 => ?_)
          · refine am_s_iconst am_cc4 dc278_11.1 ?_
            exact am_s_ireturn dc278_11.2 rfl ((vi_f (vi_f (vi_f (vi_f (vi_t q c1) c2) c3) c4) c5))
          · refine am_s_iconst am_cc3 dc278_10.2.2.1 ?_
            refine am_s_goto rfl dc278_10.2.2.2 ?_
            exact am_s_ireturn dc278_11.2 rfl ((vi_t (vi_f (vi_f (vi_f (vi_t q c1) c2) c3) c4) (Decidable.not_not.mp c5)))
        · refine am_s_iconst am_cc2 dc278_10.1.2.1 ?_
          refine am_s_goto rfl dc278_10.1.2.2 ?_
          exact am_s_ireturn dc278_11.2 rfl ((vi_t (vi_f (vi_f (vi_t q c1) c2) c3) (Decidable.not_not.mp c4)))
      · refine am_s_iconst am_cc0 dc278_9.2.2.1 ?_
        exact am_s_ireturn dc278_9.2.2.2 rfl ((vi_t (vi_f (vi_t q c1) c2) (Decidable.not_not.mp c3)))
    · refine am_s_iconst am_cc1 dc278_9.1.2.1 ?_
      exact am_s_ireturn dc278_9.1.2.2 rfl ((vi_t (vi_t q c1) (Decidable.not_not.mp c2)))
  · refine am_s_aload_n rfl dc278_3.1.1.1 ?_
    refine am_s_aload_n rfl dc278_3.1.1.2 ?_
    refine am_s_getR (r := 167) dc278_3.1.2.1 rfl rfl rfl (hp _ _ _ rfl) ?_
    refine am_s_iload_n rfl dc278_3.1.2.2 ?_
    refine am_s_iload rfl dc278_3.2.1.1 ?_
    refine am_s_virtual true dc278_3.2.1.2 rfl (by decide) rfl rfl rfl (am_mth_of rfl rfl ?_)
    refine am_s_iload_n rfl dc221_0.1.1.1 ?_
    refine am_s_bipush am_cb32 dc221_0.1.1.2 ?_
    refine am_s_isub dc221_0.1.2.1 ?_
    refine am_s_istore (ls' := [some (.ref 163), some (.ref 167), some (.int x1), some (.int x6), some (.int (x6 - 32))]) rfl rfl dc221_0.1.2.2 ?_
    refine am_s_aload_n rfl dc221_0.2.1.1 ?_
    refine am_s_bipush am_cb8 dc221_0.2.1.2 ?_
    refine am_s_iconst am_cc3 dc221_0.2.2.1 ?_
    refine am_s_iload_n rfl dc221_0.2.2.2 ?_
    refine am_s_imul dc221_1.1.1.1 ?_
    refine am_s_iadd dc221_1.1.1.2 ?_
    refine am_s_iload rfl dc221_1.1.2.1 ?_
    refine am_s_bipush am_cb32 dc221_1.1.2.2 ?_
    refine am_s_idiv (by decide) dc221_1.2.1.1 ?_
    refine am_s_iadd dc221_1.2.1.2 ?_
    refine am_x_iaload (x := I 167 (Int32.toNatClampNeg ((8 + (3 * x1)) + ((x6 - 32) / 32)))) dc221_1.2.2.1 rfl ((vi_f q c1).1) rfl rfl ?_
    refine am_s_iload rfl dc221_1.2.2.2 ?_
    refine am_s_bipush am_cb32 dc221_2.1.1.1 ?_
    refine am_s_irem (by decide) dc221_2.1.1.2 ?_
    refine am_s_ishr dc221_2.1.2.1 ?_
    refine am_s_iconst am_cc1 dc221_2.1.2.2 ?_
    refine am_s_iand dc221_2.2.1.1 ?_
    refine am_s_iconst am_cc1 dc221_2.2.1.2 ?_
    refine am_s_ic_ne dc221_2.2.2.1 rfl (fun c2 => ?_) (fun c2 => ?_)
    · refine am_s_iconst am_cc0 dc221_3.2.1 ?_
      refine am_s_zreturn dc221_3.2.2 rfl (by decide) (am_bkI ?_)
      refine am_s_istore (ls' := [some (.ref 163), some (.int x1), some (.int x2), some (.int x3), some (.int x4), some (.int x5), some (.int x6), some (.int 0), l8]) rfl rfl dc278_3.2.2.1 ?_
      refine am_s_aload_n rfl dc278_3.2.2.2 ?_
      refine am_s_aload_n rfl dc278_4.1.1.1 ?_
      refine am_s_getR (r := 167) dc278_4.1.1.2 rfl rfl rfl (hp _ _ _ rfl) ?_
      refine am_s_iload_n rfl dc278_4.1.2.1 ?_
      refine am_s_iload rfl dc278_4.1.2.2 ?_
      refine am_s_virtual true dc278_4.2.1.1 rfl (by decide) rfl rfl rfl (am_mth_of rfl rfl ?_)
      refine am_s_iload_n rfl dc221_0.1.1.1 ?_
      refine am_s_bipush am_cb32 dc221_0.1.1.2 ?_
      refine am_s_isub dc221_0.1.2.1 ?_
      refine am_s_istore (ls' := [some (.ref 163), some (.ref 167), some (.int x2), some (.int x6), some (.int (x6 - 32))]) rfl rfl dc221_0.1.2.2 ?_
      refine am_s_aload_n rfl dc221_0.2.1.1 ?_
      refine am_s_bipush am_cb8 dc221_0.2.1.2 ?_
      refine am_s_iconst am_cc3 dc221_0.2.2.1 ?_
      refine am_s_iload_n rfl dc221_0.2.2.2 ?_
      refine am_s_imul dc221_1.1.1.1 ?_
      refine am_s_iadd dc221_1.1.1.2 ?_
      refine am_s_iload rfl dc221_1.1.2.1 ?_
      refine am_s_bipush am_cb32 dc221_1.1.2.2 ?_
      refine am_s_idiv (by decide) dc221_1.2.1.1 ?_
      refine am_s_iadd dc221_1.2.1.2 ?_
      refine am_x_iaload (x := I 167 (Int32.toNatClampNeg ((8 + (3 * x2)) + ((x6 - 32) / 32)))) dc221_1.2.2.1 rfl ((vi_f (vi_f q c1).2 c2).1) rfl rfl ?_
      refine am_s_iload rfl dc221_1.2.2.2 ?_
      refine am_s_bipush am_cb32 dc221_2.1.1.1 ?_
      refine am_s_irem (by decide) dc221_2.1.1.2 ?_
      refine am_s_ishr dc221_2.1.2.1 ?_
      refine am_s_iconst am_cc1 dc221_2.1.2.2 ?_
      refine am_s_iand dc221_2.2.1.1 ?_
      refine am_s_iconst am_cc1 dc221_2.2.1.2 ?_
      refine am_s_ic_ne dc221_2.2.2.1 rfl (fun c3 => ?_) (fun c3 => ?_)
      · refine am_s_iconst am_cc0 dc221_3.2.1 ?_
        refine am_s_zreturn dc221_3.2.2 rfl (by decide) (am_bkI ?_)
        refine am_s_istore (ls' := [some (.ref 163), some (.int x1), some (.int x2), some (.int x3), some (.int x4), some (.int x5), some (.int x6), some (.int 0), some (.int 0)]) rfl rfl dc278_4.2.1.2 ?_
        refine am_s_iload_n rfl dc278_4.2.2.1 ?_
        refine am_s_iload rfl dc278_4.2.2.2 ?_
        refine am_s_if_eq dc278_5.1.1.1 rfl (fun _ => ?_) (fun z => absurd z (by decide))
        refine am_s_iconst am_cc0 dc278_5.2.1.2 ?_
        refine am_s_iadd dc278_5.2.2.1 ?_
        refine am_s_istore_n (ls' := [some (.ref 163), some (.int x1), some (.int x2), some (.int (x3 + 0)), some (.int x4), some (.int x5), some (.int x6), some (.int 0), some (.int 0)]) rfl rfl dc278_5.2.2.2 ?_
        refine am_s_iload rfl dc278_6.1.1.1 ?_
        refine am_s_iload rfl dc278_6.1.1.2 ?_
        refine am_s_if_eq dc278_6.1.2.1 rfl (fun _ => ?_) (fun z => absurd z (by decide))
        refine am_s_iconst am_cc0 dc278_6.2.2.2 ?_
        refine am_s_iadd dc278_7.1.1.1 ?_
        refine am_s_istore (ls' := [some (.ref 163), some (.int x1), some (.int x2), some (.int (x3 + 0)), some (.int (x4 + 0)), some (.int x5), some (.int x6), some (.int 0), some (.int 0)]) rfl rfl dc278_7.1.1.2 ?_
        refine am_s_iload rfl dc278_7.1.2.1 ?_
        refine am_s_iload rfl dc278_7.1.2.2 ?_
        refine am_s_if_eq dc278_7.2.1.1 rfl (fun _ => ?_) (fun z => absurd z (by decide))
        refine am_s_iconst am_cc0 dc278_8.1.1.2 ?_
        refine am_s_iadd dc278_8.1.2.1 ?_
        refine am_s_istore (ls' := [some (.ref 163), some (.int x1), some (.int x2), some (.int (x3 + 0)), some (.int (x4 + 0)), some (.int (x5 + 0)), some (.int x6), some (.int 0), some (.int 0)]) rfl rfl dc278_8.1.2.2 ?_
        refine am_s_iinc (ls' := [some (.ref 163), some (.int x1), some (.int x2), some (.int (x3 + 0)), some (.int (x4 + 0)), some (.int (x5 + 0)), some (.int (x6 + 1)), some (.int 0), some (.int 0)]) am_cc1 rfl rfl dc278_8.2.1.1 ?_
        refine am_s_goto rfl dc278_8.2.1.2 ?_
        exact (vi_f (vi_f (vi_f q c1).2 c2).2 c3)
      · refine am_s_iconst am_cc1 dc221_2.2.2.2 ?_
        refine am_s_goto rfl dc221_3.1 ?_
        refine am_s_zreturn dc221_3.2.2 rfl (by decide) (am_bkI ?_)
        refine am_s_istore (ls' := [some (.ref 163), some (.int x1), some (.int x2), some (.int x3), some (.int x4), some (.int x5), some (.int x6), some (.int 0), some (.int 1)]) rfl rfl dc278_4.2.1.2 ?_
        refine am_s_iload_n rfl dc278_4.2.2.1 ?_
        refine am_s_iload rfl dc278_4.2.2.2 ?_
        refine am_s_if_eq dc278_5.1.1.1 rfl (fun _ => ?_) (fun z => absurd z (by decide))
        refine am_s_iconst am_cc0 dc278_5.2.1.2 ?_
        refine am_s_iadd dc278_5.2.2.1 ?_
        refine am_s_istore_n (ls' := [some (.ref 163), some (.int x1), some (.int x2), some (.int (x3 + 0)), some (.int x4), some (.int x5), some (.int x6), some (.int 0), some (.int 1)]) rfl rfl dc278_5.2.2.2 ?_
        refine am_s_iload rfl dc278_6.1.1.1 ?_
        refine am_s_iload rfl dc278_6.1.1.2 ?_
        refine am_s_if_eq dc278_6.1.2.1 rfl (fun _ => ?_) (fun z => absurd z (by decide))
        refine am_s_iconst am_cc0 dc278_6.2.2.2 ?_
        refine am_s_iadd dc278_7.1.1.1 ?_
        refine am_s_istore (ls' := [some (.ref 163), some (.int x1), some (.int x2), some (.int (x3 + 0)), some (.int (x4 + 0)), some (.int x5), some (.int x6), some (.int 0), some (.int 1)]) rfl rfl dc278_7.1.1.2 ?_
        refine am_s_iload rfl dc278_7.1.2.1 ?_
        refine am_s_iload rfl dc278_7.1.2.2 ?_
        refine am_s_if_eq dc278_7.2.1.1 rfl (fun z => absurd z (by decide)) (fun _ => ?_)
        refine am_s_iload rfl dc278_7.2.1.2 ?_
        refine am_s_if_ne dc278_7.2.2.1 rfl (fun z => absurd z (by decide)) (fun _ => ?_)
        refine am_s_iconst am_cc1 dc278_7.2.2.2 ?_
        refine am_s_goto rfl dc278_8.1.1.1 ?_
        refine am_s_iadd dc278_8.1.2.1 ?_
        refine am_s_istore (ls' := [some (.ref 163), some (.int x1), some (.int x2), some (.int (x3 + 0)), some (.int (x4 + 0)), some (.int (x5 + 1)), some (.int x6), some (.int 0), some (.int 1)]) rfl rfl dc278_8.1.2.2 ?_
        refine am_s_iinc (ls' := [some (.ref 163), some (.int x1), some (.int x2), some (.int (x3 + 0)), some (.int (x4 + 0)), some (.int (x5 + 1)), some (.int (x6 + 1)), some (.int 0), some (.int 1)]) am_cc1 rfl rfl dc278_8.2.1.1 ?_
        refine am_s_goto rfl dc278_8.2.1.2 ?_
        exact (vi_t (vi_f (vi_f q c1).2 c2).2 (Decidable.not_not.mp c3))
    · refine am_s_iconst am_cc1 dc221_2.2.2.2 ?_
      refine am_s_goto rfl dc221_3.1 ?_
      refine am_s_zreturn dc221_3.2.2 rfl (by decide) (am_bkI ?_)
      refine am_s_istore (ls' := [some (.ref 163), some (.int x1), some (.int x2), some (.int x3), some (.int x4), some (.int x5), some (.int x6), some (.int 1), l8]) rfl rfl dc278_3.2.2.1 ?_
      refine am_s_aload_n rfl dc278_3.2.2.2 ?_
      refine am_s_aload_n rfl dc278_4.1.1.1 ?_
      refine am_s_getR (r := 167) dc278_4.1.1.2 rfl rfl rfl (hp _ _ _ rfl) ?_
      refine am_s_iload_n rfl dc278_4.1.2.1 ?_
      refine am_s_iload rfl dc278_4.1.2.2 ?_
      refine am_s_virtual true dc278_4.2.1.1 rfl (by decide) rfl rfl rfl (am_mth_of rfl rfl ?_)
      refine am_s_iload_n rfl dc221_0.1.1.1 ?_
      refine am_s_bipush am_cb32 dc221_0.1.1.2 ?_
      refine am_s_isub dc221_0.1.2.1 ?_
      refine am_s_istore (ls' := [some (.ref 163), some (.ref 167), some (.int x2), some (.int x6), some (.int (x6 - 32))]) rfl rfl dc221_0.1.2.2 ?_
      refine am_s_aload_n rfl dc221_0.2.1.1 ?_
      refine am_s_bipush am_cb8 dc221_0.2.1.2 ?_
      refine am_s_iconst am_cc3 dc221_0.2.2.1 ?_
      refine am_s_iload_n rfl dc221_0.2.2.2 ?_
      refine am_s_imul dc221_1.1.1.1 ?_
      refine am_s_iadd dc221_1.1.1.2 ?_
      refine am_s_iload rfl dc221_1.1.2.1 ?_
      refine am_s_bipush am_cb32 dc221_1.1.2.2 ?_
      refine am_s_idiv (by decide) dc221_1.2.1.1 ?_
      refine am_s_iadd dc221_1.2.1.2 ?_
      refine am_x_iaload (x := I 167 (Int32.toNatClampNeg ((8 + (3 * x2)) + ((x6 - 32) / 32)))) dc221_1.2.2.1 rfl ((vi_t (vi_f q c1).2 (Decidable.not_not.mp c2)).1) rfl rfl ?_
      refine am_s_iload rfl dc221_1.2.2.2 ?_
      refine am_s_bipush am_cb32 dc221_2.1.1.1 ?_
      refine am_s_irem (by decide) dc221_2.1.1.2 ?_
      refine am_s_ishr dc221_2.1.2.1 ?_
      refine am_s_iconst am_cc1 dc221_2.1.2.2 ?_
      refine am_s_iand dc221_2.2.1.1 ?_
      refine am_s_iconst am_cc1 dc221_2.2.1.2 ?_
      refine am_s_ic_ne dc221_2.2.2.1 rfl (fun c3 => ?_) (fun c3 => ?_)
      · refine am_s_iconst am_cc0 dc221_3.2.1 ?_
        refine am_s_zreturn dc221_3.2.2 rfl (by decide) (am_bkI ?_)
        refine am_s_istore (ls' := [some (.ref 163), some (.int x1), some (.int x2), some (.int x3), some (.int x4), some (.int x5), some (.int x6), some (.int 1), some (.int 0)]) rfl rfl dc278_4.2.1.2 ?_
        refine am_s_iload_n rfl dc278_4.2.2.1 ?_
        refine am_s_iload rfl dc278_4.2.2.2 ?_
        refine am_s_if_eq dc278_5.1.1.1 rfl (fun z => absurd z (by decide)) (fun _ => ?_)
        refine am_s_iload rfl dc278_5.1.1.2 ?_
        refine am_s_if_eq dc278_5.1.2.1 rfl (fun _ => ?_) (fun z => absurd z (by decide))
        refine am_s_iconst am_cc0 dc278_5.2.1.2 ?_
        refine am_s_iadd dc278_5.2.2.1 ?_
        refine am_s_istore_n (ls' := [some (.ref 163), some (.int x1), some (.int x2), some (.int (x3 + 0)), some (.int x4), some (.int x5), some (.int x6), some (.int 1), some (.int 0)]) rfl rfl dc278_5.2.2.2 ?_
        refine am_s_iload rfl dc278_6.1.1.1 ?_
        refine am_s_iload rfl dc278_6.1.1.2 ?_
        refine am_s_if_eq dc278_6.1.2.1 rfl (fun z => absurd z (by decide)) (fun _ => ?_)
        refine am_s_iload rfl dc278_6.1.2.2 ?_
        refine am_s_if_ne dc278_6.2.1.1 rfl (fun z => absurd z (by decide)) (fun _ => ?_)
        refine am_s_iconst am_cc1 dc278_6.2.1.2 ?_
        refine am_s_goto rfl dc278_6.2.2.1 ?_
        refine am_s_iadd dc278_7.1.1.1 ?_
        refine am_s_istore (ls' := [some (.ref 163), some (.int x1), some (.int x2), some (.int (x3 + 0)), some (.int (x4 + 1)), some (.int x5), some (.int x6), some (.int 1), some (.int 0)]) rfl rfl dc278_7.1.1.2 ?_
        refine am_s_iload rfl dc278_7.1.2.1 ?_
        refine am_s_iload rfl dc278_7.1.2.2 ?_
        refine am_s_if_eq dc278_7.2.1.1 rfl (fun _ => ?_) (fun z => absurd z (by decide))
        refine am_s_iconst am_cc0 dc278_8.1.1.2 ?_
        refine am_s_iadd dc278_8.1.2.1 ?_
        refine am_s_istore (ls' := [some (.ref 163), some (.int x1), some (.int x2), some (.int (x3 + 0)), some (.int (x4 + 1)), some (.int (x5 + 0)), some (.int x6), some (.int 1), some (.int 0)]) rfl rfl dc278_8.1.2.2 ?_
        refine am_s_iinc (ls' := [some (.ref 163), some (.int x1), some (.int x2), some (.int (x3 + 0)), some (.int (x4 + 1)), some (.int (x5 + 0)), some (.int (x6 + 1)), some (.int 1), some (.int 0)]) am_cc1 rfl rfl dc278_8.2.1.1 ?_
        refine am_s_goto rfl dc278_8.2.1.2 ?_
        exact (vi_f (vi_t (vi_f q c1).2 (Decidable.not_not.mp c2)).2 c3)
      · refine am_s_iconst am_cc1 dc221_2.2.2.2 ?_
        refine am_s_goto rfl dc221_3.1 ?_
        refine am_s_zreturn dc221_3.2.2 rfl (by decide) (am_bkI ?_)
        refine am_s_istore (ls' := [some (.ref 163), some (.int x1), some (.int x2), some (.int x3), some (.int x4), some (.int x5), some (.int x6), some (.int 1), some (.int 1)]) rfl rfl dc278_4.2.1.2 ?_
        refine am_s_iload_n rfl dc278_4.2.2.1 ?_
        refine am_s_iload rfl dc278_4.2.2.2 ?_
        refine am_s_if_eq dc278_5.1.1.1 rfl (fun z => absurd z (by decide)) (fun _ => ?_)
        refine am_s_iload rfl dc278_5.1.1.2 ?_
        refine am_s_if_eq dc278_5.1.2.1 rfl (fun z => absurd z (by decide)) (fun _ => ?_)
        refine am_s_iconst am_cc1 dc278_5.1.2.2 ?_
        refine am_s_goto rfl dc278_5.2.1.1 ?_
        refine am_s_iadd dc278_5.2.2.1 ?_
        refine am_s_istore_n (ls' := [some (.ref 163), some (.int x1), some (.int x2), some (.int (x3 + 1)), some (.int x4), some (.int x5), some (.int x6), some (.int 1), some (.int 1)]) rfl rfl dc278_5.2.2.2 ?_
        refine am_s_iload rfl dc278_6.1.1.1 ?_
        refine am_s_iload rfl dc278_6.1.1.2 ?_
        refine am_s_if_eq dc278_6.1.2.1 rfl (fun z => absurd z (by decide)) (fun _ => ?_)
        refine am_s_iload rfl dc278_6.1.2.2 ?_
        refine am_s_if_ne dc278_6.2.1.1 rfl (fun _ => ?_) (fun z => absurd z (by decide))
        refine am_s_iconst am_cc0 dc278_6.2.2.2 ?_
        refine am_s_iadd dc278_7.1.1.1 ?_
        refine am_s_istore (ls' := [some (.ref 163), some (.int x1), some (.int x2), some (.int (x3 + 1)), some (.int (x4 + 0)), some (.int x5), some (.int x6), some (.int 1), some (.int 1)]) rfl rfl dc278_7.1.1.2 ?_
        refine am_s_iload rfl dc278_7.1.2.1 ?_
        refine am_s_iload rfl dc278_7.1.2.2 ?_
        refine am_s_if_eq dc278_7.2.1.1 rfl (fun z => absurd z (by decide)) (fun _ => ?_)
        refine am_s_iload rfl dc278_7.2.1.2 ?_
        refine am_s_if_ne dc278_7.2.2.1 rfl (fun _ => ?_) (fun z => absurd z (by decide))
        refine am_s_iconst am_cc0 dc278_8.1.1.2 ?_
        refine am_s_iadd dc278_8.1.2.1 ?_
        refine am_s_istore (ls' := [some (.ref 163), some (.int x1), some (.int x2), some (.int (x3 + 1)), some (.int (x4 + 0)), some (.int (x5 + 0)), some (.int x6), some (.int 1), some (.int 1)]) rfl rfl dc278_8.1.2.2 ?_
        refine am_s_iinc (ls' := [some (.ref 163), some (.int x1), some (.int x2), some (.int (x3 + 1)), some (.int (x4 + 0)), some (.int (x5 + 0)), some (.int (x6 + 1)), some (.int 1), some (.int 1)]) am_cc1 rfl rfl dc278_8.2.1.1 ?_
        refine am_s_goto rfl dc278_8.2.1.2 ?_
        exact (vi_t (vi_t (vi_f q c1).2 (Decidable.not_not.mp c2)).2 (Decidable.not_not.mp c3))
theorem v278_10 {sc : Option (Nat × (Nat → Int32))} {d k n : Nat} {P : am_O → Prop} {I : am_I} {J : am_J} {Pf : am_R} (hp : am_PF Pf) {x1 : Int32} {x2 : Int32} {l3 : Option Value} {l4 : Option Value} {l5 : Option Value} {l6 : Option Value} {l7 : Option Value} {l8 : Option Value} {s0 : Int32} (q : (if s0 = 0 then (P (.inl (some (.int 0)), (am_SH, I, J, Pf), k, n)) else (am_mth d 275 [.ref 163, .int x2] (am_SH, I, J, Pf) (am_af sc d 278 15 [some (.ref 163), some (.int x1), some (.int x2), l3, l4, l5, l6, l7, l8] [.int x2, .ref 163] [] (am_SH, I, J, Pf) k n true P)))) : am_go sc d 278 (10, [some (.ref 163), some (.int x1), some (.int x2), l3, l4, l5, l6, l7, l8], [.int s0], (am_SH, I, J, Pf), k, n) P := by
  refine am_s_if_eq dc278_0.2.2.1 rfl (fun c1 => ?_) (fun c1 => ?_)
  · refine am_s_iconst am_cc0 dc278_1.1.2.2 ?_
    exact am_s_ireturn dc278_1.2.1.1 rfl ((vi_t q c1))
  · refine am_s_aload_n rfl dc278_0.2.2.2 ?_
    refine am_s_iload_n rfl dc278_1.1.1.1 ?_
    exact am_s_virtual true dc278_1.1.1.2 rfl (by decide) rfl rfl rfl ((vi_f q c1))
theorem v278_18 {sc : Option (Nat × (Nat → Int32))} {d k n : Nat} {P : am_O → Prop} {I : am_I} {J : am_J} {Pf : am_R} (hp : am_PF Pf) {x1 : Int32} {x2 : Int32} {l3 : Option Value} {l4 : Option Value} {l5 : Option Value} {l6 : Option Value} {l7 : Option Value} {l8 : Option Value} {s0 : Int32} (q : (if s0 = 0 then (P (.inl (some (.int 0)), (am_SH, I, J, Pf), k, n)) else (am_go sc d 278 (35, [some (.ref 163), some (.int x1), some (.int x2), some (.int 0), some (.int 0), some (.int 0), some (.int 32), l7, l8], [], (am_SH, I, J, Pf), k, n) P))) : am_go sc d 278 (18, [some (.ref 163), some (.int x1), some (.int x2), l3, l4, l5, l6, l7, l8], [.int s0], (am_SH, I, J, Pf), k, n) P := by
  refine am_s_if_ne dc278_1.1.2.1 rfl (fun c1 => ?_) (fun c1 => ?_)
  · refine am_s_iconst am_cc0 dc278_1.2.1.2 ?_
    refine am_s_istore_n (ls' := [some (.ref 163), some (.int x1), some (.int x2), some (.int 0), l4, l5, l6, l7, l8]) rfl rfl dc278_1.2.2.1 ?_
    refine am_s_iconst am_cc0 dc278_1.2.2.2 ?_
    refine am_s_istore (ls' := [some (.ref 163), some (.int x1), some (.int x2), some (.int 0), some (.int 0), l5, l6, l7, l8]) rfl rfl dc278_2.1.1.1 ?_
    refine am_s_iconst am_cc0 dc278_2.1.1.2 ?_
    refine am_s_istore (ls' := [some (.ref 163), some (.int x1), some (.int x2), some (.int 0), some (.int 0), some (.int 0), l6, l7, l8]) rfl rfl dc278_2.1.2.1 ?_
    refine am_s_bipush am_cb32 dc278_2.1.2.2 ?_
    refine am_s_istore (ls' := [some (.ref 163), some (.int x1), some (.int x2), some (.int 0), some (.int 0), some (.int 0), some (.int 32), l7, l8]) rfl rfl dc278_2.2.1.1 ?_
    exact (vi_f q c1)
  · refine am_s_iconst am_cc0 dc278_1.1.2.2 ?_
    exact am_s_ireturn dc278_1.2.1.1 rfl ((vi_t q (Decidable.not_not.mp c1)))
-- production (II)I
theorem v279_0 {sc : Option (Nat × (Nat → Int32))} {d k n : Nat} {P : am_O → Prop} {I : am_I} {J : am_J} {Pf : am_R} (hp : am_PF Pf) {x1 : Int32} {x2 : Int32} (q : (if x1 < 0 then (P (.inl (some (.int 0)), (am_SH, am_u (am_u (am_u I 163 0 0) 163 0 1) 164 0 ((I 164 0) + 1), J, Pf), k, n)) else (if ((I 167 1) - 1) < x1 then (P (.inl (some (.int 0)), (am_SH, am_u (am_u (am_u I 163 0 0) 163 0 1) 164 0 ((I 164 0) + 1), J, Pf), k, n)) else (if x2 < 0 then (P (.inl (some (.int 0)), (am_SH, am_u (am_u (am_u I 163 0 0) 163 0 2) 164 1 ((I 164 1) + 1), J, Pf), k, n)) else (if 2 < x2 then (P (.inl (some (.int 0)), (am_SH, am_u (am_u (am_u I 163 0 0) 163 0 2) 164 1 ((I 164 1) + 1), J, Pf), k, n)) else (am_in ((32 + (3 * x1)) + x2) 1040 = true) ∧ (P (.inl (some (.int (I 167 (Int32.toNatClampNeg ((32 + (3 * x1)) + x2))))), (am_SH, am_u I 163 0 0, J, Pf), k, n))))))) : am_go sc (d + 1) 279 (0, [some (.ref 163), some (.int x1), some (.int x2)], [], (am_SH, I, J, Pf), k, n) P := by
  refine am_s_aload_n rfl dc279_0.1.1.1 ?_
  refine am_s_iconst am_cc0 dc279_0.1.1.2 ?_
  refine am_s_putI dc279_0.1.2.1 rfl rfl rfl rfl ?_
  refine am_s_aload_n rfl dc279_0.1.2.2 ?_
  refine am_s_iload_n rfl dc279_0.2.1.1 ?_
  refine am_s_iconst am_cc0 dc279_0.2.1.2 ?_
  refine am_s_aload_n rfl dc279_0.2.2.1 ?_
  refine am_s_getR (r := 167) dc279_0.2.2.2 rfl rfl rfl (hp _ _ _ rfl) ?_
  refine am_s_iconst am_cc1 dc279_1.1.1.1 ?_
  refine am_x_iaload (x := I 167 1) dc279_1.1.1.2 rfl (by decide +kernel) am_cN1 rfl ?_
  refine am_s_iconst am_cc1 dc279_1.1.2.1 ?_
  refine am_s_isub dc279_1.1.2.2 ?_
  refine am_s_static dc279_1.2.1.1 rfl rfl rfl (am_mth_of rfl rfl ?_)
  refine am_s_iload_n rfl dc190_0.1.1.1 ?_
  refine am_s_iload_n rfl dc190_0.1.1.2 ?_
  refine am_s_ic_lt dc190_0.1.2.1 rfl (fun c1 => ?_) (fun c1 => ?_)
  · refine am_s_iconst am_cc0 dc190_1.1 ?_
    refine am_s_zreturn dc190_1.2 rfl (by decide) (am_bkI ?_)
    refine am_s_iconst am_cc1 dc279_1.2.1.2 ?_
    refine am_s_iconst am_cc0 dc279_1.2.2.1 ?_
    refine am_s_virtual true dc279_1.2.2.2 rfl (by decide) rfl rfl rfl (am_mth_of rfl rfl ?_)
    refine am_s_iload_n rfl dc189_0.1.1.1 ?_
    refine am_s_if_ne dc189_0.1.1.2 rfl (fun z => absurd z (by decide)) (fun _ => ?_)
    refine am_s_aload_n rfl dc189_0.1.2.1 ?_
    refine am_x_getI (x := 0) dc189_0.1.2.2 rfl rfl (Or.inl rfl) rfl ?_
    refine am_s_if_ne dc189_0.2.1.1 rfl (fun z => absurd z (by decide)) (fun _ => ?_)
    refine am_s_aload_n rfl dc189_0.2.1.2 ?_
    refine am_s_iload_n rfl dc189_0.2.2.1 ?_
    refine am_s_putI dc189_0.2.2.2 rfl rfl rfl rfl ?_
    refine am_s_aload_n rfl dc189_1.1.1.1 ?_
    refine am_s_getR (r := 164) dc189_1.1.1.2 rfl rfl rfl (hp _ _ _ rfl) ?_
    refine am_s_iload_n rfl dc189_1.1.2.1 ?_
    refine am_s_dup2 rfl rfl dc189_1.1.2.2 ?_
    refine am_x_iaload (x := I 164 0) dc189_1.2.1.1 rfl (by decide +kernel) am_cN0 rfl ?_
    refine am_s_iconst am_cc1 dc189_1.2.1.2 ?_
    refine am_s_iadd dc189_1.2.2.1 ?_
    refine am_s_iastore dc189_1.2.2.2 rfl (by decide +kernel) am_cN0 ?_
    refine am_s_aload_n rfl dc189_2.1.1 ?_
    refine am_x_getI (x := 1) dc189_2.1.2.1 rfl rfl (Or.inl rfl) rfl ?_
    refine am_s_if_ne dc189_2.1.2.2 rfl (fun _ => ?_) (fun z => absurd z (by decide))
    refine am_s_iconst am_cc0 dc189_2.2.2.1 ?_
    refine am_s_zreturn dc189_2.2.2.2 rfl (by decide) (am_bkI ?_)
    refine am_s_if_eq dc279_2.1.1.1 rfl (fun _ => ?_) (fun z => absurd z (by decide))
    refine am_s_iconst am_cc0 dc279_3.1.2.1 ?_
    exact am_s_ireturn dc279_3.1.2.2 rfl ((vi_t q c1))
  · refine am_s_iload_n rfl dc190_0.1.2.2 ?_
    refine am_s_iload_n rfl dc190_0.2.1.1 ?_
    refine am_s_ic_gt dc190_0.2.1.2 rfl (fun c2 => ?_) (fun c2 => ?_)
    · refine am_s_iconst am_cc0 dc190_1.1 ?_
      refine am_s_zreturn dc190_1.2 rfl (by decide) (am_bkI ?_)
      refine am_s_iconst am_cc1 dc279_1.2.1.2 ?_
      refine am_s_iconst am_cc0 dc279_1.2.2.1 ?_
      refine am_s_virtual true dc279_1.2.2.2 rfl (by decide) rfl rfl rfl (am_mth_of rfl rfl ?_)
      refine am_s_iload_n rfl dc189_0.1.1.1 ?_
      refine am_s_if_ne dc189_0.1.1.2 rfl (fun z => absurd z (by decide)) (fun _ => ?_)
      refine am_s_aload_n rfl dc189_0.1.2.1 ?_
      refine am_x_getI (x := 0) dc189_0.1.2.2 rfl rfl (Or.inl rfl) rfl ?_
      refine am_s_if_ne dc189_0.2.1.1 rfl (fun z => absurd z (by decide)) (fun _ => ?_)
      refine am_s_aload_n rfl dc189_0.2.1.2 ?_
      refine am_s_iload_n rfl dc189_0.2.2.1 ?_
      refine am_s_putI dc189_0.2.2.2 rfl rfl rfl rfl ?_
      refine am_s_aload_n rfl dc189_1.1.1.1 ?_
      refine am_s_getR (r := 164) dc189_1.1.1.2 rfl rfl rfl (hp _ _ _ rfl) ?_
      refine am_s_iload_n rfl dc189_1.1.2.1 ?_
      refine am_s_dup2 rfl rfl dc189_1.1.2.2 ?_
      refine am_x_iaload (x := I 164 0) dc189_1.2.1.1 rfl (by decide +kernel) am_cN0 rfl ?_
      refine am_s_iconst am_cc1 dc189_1.2.1.2 ?_
      refine am_s_iadd dc189_1.2.2.1 ?_
      refine am_s_iastore dc189_1.2.2.2 rfl (by decide +kernel) am_cN0 ?_
      refine am_s_aload_n rfl dc189_2.1.1 ?_
      refine am_x_getI (x := 1) dc189_2.1.2.1 rfl rfl (Or.inl rfl) rfl ?_
      refine am_s_if_ne dc189_2.1.2.2 rfl (fun _ => ?_) (fun z => absurd z (by decide))
      refine am_s_iconst am_cc0 dc189_2.2.2.1 ?_
      refine am_s_zreturn dc189_2.2.2.2 rfl (by decide) (am_bkI ?_)
      refine am_s_if_eq dc279_2.1.1.1 rfl (fun _ => ?_) (fun z => absurd z (by decide))
      refine am_s_iconst am_cc0 dc279_3.1.2.1 ?_
      exact am_s_ireturn dc279_3.1.2.2 rfl ((vi_t (vi_f q c1) c2))
    · refine am_s_iconst am_cc1 dc190_0.2.2.1 ?_
      refine am_s_goto rfl dc190_0.2.2.2 ?_
      refine am_s_zreturn dc190_1.2 rfl (by decide) (am_bkI ?_)
      refine am_s_iconst am_cc1 dc279_1.2.1.2 ?_
      refine am_s_iconst am_cc0 dc279_1.2.2.1 ?_
      refine am_s_virtual true dc279_1.2.2.2 rfl (by decide) rfl rfl rfl (am_mth_of rfl rfl ?_)
      refine am_s_iload_n rfl dc189_0.1.1.1 ?_
      refine am_s_if_ne dc189_0.1.1.2 rfl (fun _ => ?_) (fun z => absurd z (by decide))
      refine am_s_aload_n rfl dc189_2.1.1 ?_
      refine am_x_getI (x := 0) dc189_2.1.2.1 rfl rfl (Or.inl rfl) rfl ?_
      refine am_s_if_ne dc189_2.1.2.2 rfl (fun z => absurd z (by decide)) (fun _ => ?_)
      refine am_s_iconst am_cc1 dc189_2.2.1.1 ?_
      refine am_s_goto rfl dc189_2.2.1.2 ?_
      refine am_s_zreturn dc189_2.2.2.2 rfl (by decide) (am_bkI ?_)
      refine am_s_if_eq dc279_2.1.1.1 rfl (fun z => absurd z (by decide)) (fun _ => ?_)
      refine am_s_aload_n rfl dc279_2.1.1.2 ?_
      refine am_s_iload_n rfl dc279_2.1.2.1 ?_
      refine am_s_iconst am_cc0 dc279_2.1.2.2 ?_
      refine am_s_iconst am_cc2 dc279_2.2.1.1 ?_
      refine am_s_static dc279_2.2.1.2 rfl rfl rfl (am_mth_of rfl rfl ?_)
      refine am_s_iload_n rfl dc190_0.1.1.1 ?_
      refine am_s_iload_n rfl dc190_0.1.1.2 ?_
      refine am_s_ic_lt dc190_0.1.2.1 rfl (fun c3 => ?_) (fun c3 => ?_)
      · refine am_s_iconst am_cc0 dc190_1.1 ?_
        refine am_s_zreturn dc190_1.2 rfl (by decide) (am_bkI ?_)
        refine am_s_iconst am_cc2 dc279_2.2.2.1 ?_
        refine am_s_iconst am_cc1 dc279_2.2.2.2 ?_
        refine am_s_virtual true dc279_3.1.1.1 rfl (by decide) rfl rfl rfl (am_mth_of rfl rfl ?_)
        refine am_s_iload_n rfl dc189_0.1.1.1 ?_
        refine am_s_if_ne dc189_0.1.1.2 rfl (fun z => absurd z (by decide)) (fun _ => ?_)
        refine am_s_aload_n rfl dc189_0.1.2.1 ?_
        refine am_x_getI (x := 0) dc189_0.1.2.2 rfl rfl (Or.inl rfl) rfl ?_
        refine am_s_if_ne dc189_0.2.1.1 rfl (fun z => absurd z (by decide)) (fun _ => ?_)
        refine am_s_aload_n rfl dc189_0.2.1.2 ?_
        refine am_s_iload_n rfl dc189_0.2.2.1 ?_
        refine am_s_putI dc189_0.2.2.2 rfl rfl rfl rfl ?_
        refine am_s_aload_n rfl dc189_1.1.1.1 ?_
        refine am_s_getR (r := 164) dc189_1.1.1.2 rfl rfl rfl (hp _ _ _ rfl) ?_
        refine am_s_iload_n rfl dc189_1.1.2.1 ?_
        refine am_s_dup2 rfl rfl dc189_1.1.2.2 ?_
        refine am_x_iaload (x := I 164 1) dc189_1.2.1.1 rfl (by decide +kernel) am_cN1 rfl ?_
        refine am_s_iconst am_cc1 dc189_1.2.1.2 ?_
        refine am_s_iadd dc189_1.2.2.1 ?_
        refine am_s_iastore dc189_1.2.2.2 rfl (by decide +kernel) am_cN1 ?_
        refine am_s_aload_n rfl dc189_2.1.1 ?_
        refine am_x_getI (x := 2) dc189_2.1.2.1 rfl rfl (Or.inl rfl) rfl ?_
        refine am_s_if_ne dc189_2.1.2.2 rfl (fun _ => ?_) (fun z => absurd z (by decide))
        refine am_s_iconst am_cc0 dc189_2.2.2.1 ?_
        refine am_s_zreturn dc189_2.2.2.2 rfl (by decide) (am_bkI ?_)
        refine am_s_if_ne dc279_3.1.1.2 rfl (fun z => absurd z (by decide)) (fun _ => ?_)
        refine am_s_iconst am_cc0 dc279_3.1.2.1 ?_
        exact am_s_ireturn dc279_3.1.2.2 rfl ((vi_t (vi_f (vi_f q c1) c2) c3))
      · refine am_s_iload_n rfl dc190_0.1.2.2 ?_
        refine am_s_iload_n rfl dc190_0.2.1.1 ?_
        refine am_s_ic_gt dc190_0.2.1.2 rfl (fun c4 => ?_) (fun c4 => ?_)
        · refine am_s_iconst am_cc0 dc190_1.1 ?_
          refine am_s_zreturn dc190_1.2 rfl (by decide) (am_bkI ?_)
          refine am_s_iconst am_cc2 dc279_2.2.2.1 ?_
          refine am_s_iconst am_cc1 dc279_2.2.2.2 ?_
          refine am_s_virtual true dc279_3.1.1.1 rfl (by decide) rfl rfl rfl (am_mth_of rfl rfl ?_)
          refine am_s_iload_n rfl dc189_0.1.1.1 ?_
          refine am_s_if_ne dc189_0.1.1.2 rfl (fun z => absurd z (by decide)) (fun _ => ?_)
          refine am_s_aload_n rfl dc189_0.1.2.1 ?_
          refine am_x_getI (x := 0) dc189_0.1.2.2 rfl rfl (Or.inl rfl) rfl ?_
          refine am_s_if_ne dc189_0.2.1.1 rfl (fun z => absurd z (by decide)) (fun _ => ?_)
          refine am_s_aload_n rfl dc189_0.2.1.2 ?_
          refine am_s_iload_n rfl dc189_0.2.2.1 ?_
          refine am_s_putI dc189_0.2.2.2 rfl rfl rfl rfl ?_
          refine am_s_aload_n rfl dc189_1.1.1.1 ?_
          refine am_s_getR (r := 164) dc189_1.1.1.2 rfl rfl rfl (hp _ _ _ rfl) ?_
          refine am_s_iload_n rfl dc189_1.1.2.1 ?_
          refine am_s_dup2 rfl rfl dc189_1.1.2.2 ?_
          refine am_x_iaload (x := I 164 1) dc189_1.2.1.1 rfl (by decide +kernel) am_cN1 rfl ?_
          refine am_s_iconst am_cc1 dc189_1.2.1.2 ?_
          refine am_s_iadd dc189_1.2.2.1 ?_
          refine am_s_iastore dc189_1.2.2.2 rfl (by decide +kernel) am_cN1 ?_
          refine am_s_aload_n rfl dc189_2.1.1 ?_
          refine am_x_getI (x := 2) dc189_2.1.2.1 rfl rfl (Or.inl rfl) rfl ?_
          refine am_s_if_ne dc189_2.1.2.2 rfl (fun _ => ?_) (fun z => absurd z (by decide))
          refine am_s_iconst am_cc0 dc189_2.2.2.1 ?_
          refine am_s_zreturn dc189_2.2.2.2 rfl (by decide) (am_bkI ?_)
          refine am_s_if_ne dc279_3.1.1.2 rfl (fun z => absurd z (by decide)) (fun _ => ?_)
          refine am_s_iconst am_cc0 dc279_3.1.2.1 ?_
          exact am_s_ireturn dc279_3.1.2.2 rfl ((vi_t (vi_f (vi_f (vi_f q c1) c2) c3) c4))
        · refine am_s_iconst am_cc1 dc190_0.2.2.1 ?_
          refine am_s_goto rfl dc190_0.2.2.2 ?_
          refine am_s_zreturn dc190_1.2 rfl (by decide) (am_bkI ?_)
          refine am_s_iconst am_cc2 dc279_2.2.2.1 ?_
          refine am_s_iconst am_cc1 dc279_2.2.2.2 ?_
          refine am_s_virtual true dc279_3.1.1.1 rfl (by decide) rfl rfl rfl (am_mth_of rfl rfl ?_)
          refine am_s_iload_n rfl dc189_0.1.1.1 ?_
          refine am_s_if_ne dc189_0.1.1.2 rfl (fun _ => ?_) (fun z => absurd z (by decide))
          refine am_s_aload_n rfl dc189_2.1.1 ?_
          refine am_x_getI (x := 0) dc189_2.1.2.1 rfl rfl (Or.inl rfl) rfl ?_
          refine am_s_if_ne dc189_2.1.2.2 rfl (fun z => absurd z (by decide)) (fun _ => ?_)
          refine am_s_iconst am_cc1 dc189_2.2.1.1 ?_
          refine am_s_goto rfl dc189_2.2.1.2 ?_
          refine am_s_zreturn dc189_2.2.2.2 rfl (by decide) (am_bkI ?_)
          refine am_s_if_ne dc279_3.1.1.2 rfl (fun _ => ?_) (fun z => absurd z (by decide))
          refine am_s_aload_n rfl dc279_3.2.1.1 ?_
          refine am_s_getR (r := 167) dc279_3.2.1.2 rfl rfl rfl (hp _ _ _ rfl) ?_
          refine am_s_bipush am_cb32 dc279_3.2.2.1 ?_
          refine am_s_iconst am_cc3 dc279_3.2.2.2 ?_
          refine am_s_iload_n rfl dc279_4.1.1 ?_
          refine am_s_imul dc279_4.1.2.1 ?_
          refine am_s_iadd dc279_4.1.2.2 ?_
          refine am_s_iload_n rfl dc279_4.2.1.1 ?_
          refine am_s_iadd dc279_4.2.1.2 ?_
          refine am_x_iaload (x := I 167 (Int32.toNatClampNeg ((32 + (3 * x1)) + x2))) dc279_4.2.2.1 rfl ((vi_f (vi_f (vi_f (vi_f q c1) c2) c3) c4).1) rfl rfl ?_
          exact am_s_ireturn dc279_4.2.2.2 rfl ((vi_f (vi_f (vi_f (vi_f q c1) c2) c3) c4).2)
-- canBeEmpty (I)Z
theorem v280_0 {sc : Option (Nat × (Nat → Int32))} {d k n : Nat} {P : am_O → Prop} {I : am_I} {J : am_J} {Pf : am_R} (hp : am_PF Pf) {x1 : Int32} {l2 : Option Value} {l3 : Option Value} (q : (am_go sc d 280 (2, [some (.ref 163), some (.int x1), some (.int 0), l3], [], (am_SH, I, J, Pf), k, n) P)) : am_go sc d 280 (0, [some (.ref 163), some (.int x1), l2, l3], [], (am_SH, I, J, Pf), k, n) P := by
  refine am_s_iconst am_cc0 dc280_0.1.1.1 ?_
  refine am_s_istore_n (ls' := [some (.ref 163), some (.int x1), some (.int 0), l3]) rfl rfl dc280_0.1.1.2 ?_
  exact q
theorem v280_2 {sc : Option (Nat × (Nat → Int32))} {d k n : Nat} {P : am_O → Prop} {I : am_I} {J : am_J} {Pf : am_R} (hp : am_PF Pf) {x1 : Int32} {x2 : Int32} {l3 : Option Value} (q : (am_in ((32 + (3 * x1)) + 2) 1040 = true) ∧ (if (I 167 (Int32.toNatClampNeg ((32 + (3 * x1)) + 2))) ≤ x2 then (P (.inl (some (.int 1)), (am_SH, I, J, Pf), k, n)) else (am_in (92 + (((4 * x1) + x2) * 11)) 1040 = true) ∧ (if (I 167 (Int32.toNatClampNeg (92 + (((4 * x1) + x2) * 11)))) = 1 then (am_in ((92 + (((4 * x1) + x2) * 11)) + 1) 1040 = true) ∧ (am_in (I 167 (Int32.toNatClampNeg ((92 + (((4 * x1) + x2) * 11)) + 1))) 8 = true) ∧ (if (I 190 (Int32.toNatClampNeg (I 167 (Int32.toNatClampNeg ((92 + (((4 * x1) + x2) * 11)) + 1))))) = 0 then (P (.inl (some (.int 0)), (am_SH, I, J, Pf), k, n)) else (am_go sc d 280 (2, [some (.ref 163), some (.int x1), some (.int (x2 + 1)), some (.int (92 + (((4 * x1) + x2) * 11)))], [], (am_SH, I, J, Pf), k, n) P)) else (P (.inl (some (.int 0)), (am_SH, I, J, Pf), k, n))))) : am_go sc d 280 (2, [some (.ref 163), some (.int x1), some (.int x2), l3], [], (am_SH, I, J, Pf), k, n) P := by
  refine am_s_iload_n rfl dc280_0.1.2.1 ?_
  refine am_s_aload_n rfl dc280_0.1.2.2 ?_
  refine am_s_getR (r := 167) dc280_0.2.1.1 rfl rfl rfl (hp _ _ _ rfl) ?_
  refine am_s_bipush am_cb32 dc280_0.2.1.2 ?_
  refine am_s_iconst am_cc3 dc280_0.2.2.1 ?_
  refine am_s_iload_n rfl dc280_0.2.2.2 ?_
  refine am_s_imul dc280_1.1.1.1 ?_
  refine am_s_iadd dc280_1.1.1.2 ?_
  refine am_s_iconst am_cc2 dc280_1.1.2.1 ?_
  refine am_s_iadd dc280_1.1.2.2 ?_
  refine am_x_iaload (x := I 167 (Int32.toNatClampNeg ((32 + (3 * x1)) + 2))) dc280_1.2.1.1 rfl (q.1) rfl rfl ?_
  refine am_s_ic_ge dc280_1.2.1.2 rfl (fun c1 => ?_) (fun c1 => ?_)
  · refine am_s_iconst am_cc1 dc280_5.2.2.1 ?_
    exact am_s_zreturn dc280_5.2.2.2 rfl (by decide) ((vi_t q.2 c1))
  · refine am_s_bipush am_cb92 dc280_1.2.2.1 ?_
    refine am_s_iconst am_cc4 dc280_1.2.2.2 ?_
    refine am_s_iload_n rfl dc280_2.1.1.1 ?_
    refine am_s_imul dc280_2.1.1.2 ?_
    refine am_s_iload_n rfl dc280_2.1.2.1 ?_
    refine am_s_iadd dc280_2.1.2.2 ?_
    refine am_s_bipush am_cb11 dc280_2.2.1.1 ?_
    refine am_s_imul dc280_2.2.1.2 ?_
    refine am_s_iadd dc280_2.2.2.1 ?_
    refine am_s_istore_n (ls' := [some (.ref 163), some (.int x1), some (.int x2), some (.int (92 + (((4 * x1) + x2) * 11)))]) rfl rfl dc280_2.2.2.2 ?_
    refine am_s_aload_n rfl dc280_3.1.1.1 ?_
    refine am_s_getR (r := 167) dc280_3.1.1.2 rfl rfl rfl (hp _ _ _ rfl) ?_
    refine am_s_iload_n rfl dc280_3.1.2.1 ?_
    refine am_x_iaload (x := I 167 (Int32.toNatClampNeg (92 + (((4 * x1) + x2) * 11)))) dc280_3.1.2.2 rfl ((vi_f q.2 c1).1) rfl rfl ?_
    refine am_s_iconst am_cc1 dc280_3.2.1.1 ?_
    refine am_s_ic_ne dc280_3.2.1.2 rfl (fun c2 => ?_) (fun c2 => ?_)
    · refine am_s_iconst am_cc0 dc280_5.1.1 ?_
      exact am_s_zreturn dc280_5.1.2.1 rfl (by decide) ((vi_f (vi_f q.2 c1).2 c2))
    · refine am_s_aload_n rfl dc280_3.2.2.1 ?_
      refine am_s_getR (r := 190) dc280_3.2.2.2 rfl rfl rfl (hp _ _ _ rfl) ?_
      refine am_s_aload_n rfl dc280_4.1.1.1 ?_
      refine am_s_getR (r := 167) dc280_4.1.1.2 rfl rfl rfl (hp _ _ _ rfl) ?_
      refine am_s_iload_n rfl dc280_4.1.2.1 ?_
      refine am_s_iconst am_cc1 dc280_4.1.2.2 ?_
      refine am_s_iadd dc280_4.2.1.1 ?_
      refine am_x_iaload (x := I 167 (Int32.toNatClampNeg ((92 + (((4 * x1) + x2) * 11)) + 1))) dc280_4.2.1.2 rfl ((vi_t (vi_f q.2 c1).2 (Decidable.not_not.mp c2)).1) rfl rfl ?_
      refine am_x_baload (x := I 190 (Int32.toNatClampNeg (I 167 (Int32.toNatClampNeg ((92 + (((4 * x1) + x2) * 11)) + 1))))) dc280_4.2.2.1 rfl ((vi_t (vi_f q.2 c1).2 (Decidable.not_not.mp c2)).2.1) rfl rfl ?_
      refine am_s_if_ne dc280_4.2.2.2 rfl (fun c3 => ?_) (fun c3 => ?_)
      · refine am_s_iinc (ls' := [some (.ref 163), some (.int x1), some (.int (x2 + 1)), some (.int (92 + (((4 * x1) + x2) * 11)))]) am_cc1 rfl rfl dc280_5.1.2.2 ?_
        refine am_s_goto rfl dc280_5.2.1 ?_
        exact (vi_f (vi_t (vi_f q.2 c1).2 (Decidable.not_not.mp c2)).2.2 c3)
      · refine am_s_iconst am_cc0 dc280_5.1.1 ?_
        exact am_s_zreturn dc280_5.1.2.1 rfl (by decide) ((vi_t (vi_t (vi_f q.2 c1).2 (Decidable.not_not.mp c2)).2.2 (Decidable.not_not.mp c3)))
-- beginsWith (IIII)V
theorem v281_0 {sc : Option (Nat × (Nat → Int32))} {d k n : Nat} {P : am_O → Prop} {I : am_I} {J : am_J} {Pf : am_R} (hp : am_PF Pf) {x1 : Int32} {x2 : Int32} {x3 : Int32} {x4 : Int32} (q : (am_in (3 * x1) 24 = true) ∧ (am_in (3 * x1) 24 = true) ∧ (am_in ((3 * x1) + 1) 24 = true) ∧ (am_in ((3 * x1) + 1) 24 = true) ∧ (am_in ((3 * x1) + 2) 24 = true) ∧ (am_in ((3 * x1) + 2) 24 = true) ∧ (P (.inl none, (am_SH, am_u (am_u (am_u I 191 (Int32.toNatClampNeg (3 * x1)) ((I 191 (Int32.toNatClampNeg (3 * x1))) ||| x2)) 191 (Int32.toNatClampNeg ((3 * x1) + 1)) (((am_u I 191 (Int32.toNatClampNeg (3 * x1)) ((I 191 (Int32.toNatClampNeg (3 * x1))) ||| x2)) 191 (Int32.toNatClampNeg ((3 * x1) + 1))) ||| x3)) 191 (Int32.toNatClampNeg ((3 * x1) + 2)) (((am_u (am_u I 191 (Int32.toNatClampNeg (3 * x1)) ((I 191 (Int32.toNatClampNeg (3 * x1))) ||| x2)) 191 (Int32.toNatClampNeg ((3 * x1) + 1)) (((am_u I 191 (Int32.toNatClampNeg (3 * x1)) ((I 191 (Int32.toNatClampNeg (3 * x1))) ||| x2)) 191 (Int32.toNatClampNeg ((3 * x1) + 1))) ||| x3)) 191 (Int32.toNatClampNeg ((3 * x1) + 2))) ||| x4), J, Pf), k, n))) : am_go sc d 281 (0, [some (.ref 163), some (.int x1), some (.int x2), some (.int x3), some (.int x4)], [], (am_SH, I, J, Pf), k, n) P := by
  refine am_s_aload_n rfl dc281_0.1.1.1 ?_
  refine am_s_getR (r := 191) dc281_0.1.1.2 rfl rfl rfl (hp _ _ _ rfl) ?_
  refine am_s_iconst am_cc3 dc281_0.1.2.1 ?_
  refine am_s_iload_n rfl dc281_0.1.2.2 ?_
  refine am_s_imul dc281_0.2.1.1 ?_
  refine am_s_dup2 rfl rfl dc281_0.2.1.2 ?_
  refine am_x_iaload (x := I 191 (Int32.toNatClampNeg (3 * x1))) dc281_0.2.2.1 rfl (q.1) rfl rfl ?_
  refine am_s_iload_n rfl dc281_0.2.2.2 ?_
  refine am_s_ior dc281_1.1.1.1 ?_
  refine am_s_iastore dc281_1.1.1.2 rfl (q.2.1) rfl ?_
  refine am_s_aload_n rfl dc281_1.1.2.1 ?_
  refine am_s_getR (r := 191) dc281_1.1.2.2 rfl rfl rfl (hp _ _ _ rfl) ?_
  refine am_s_iconst am_cc3 dc281_1.2.1.1 ?_
  refine am_s_iload_n rfl dc281_1.2.1.2 ?_
  refine am_s_imul dc281_1.2.2.1 ?_
  refine am_s_iconst am_cc1 dc281_1.2.2.2 ?_
  refine am_s_iadd dc281_2.1.1.1 ?_
  refine am_s_dup2 rfl rfl dc281_2.1.1.2 ?_
  refine am_x_iaload (x := (am_u I 191 (Int32.toNatClampNeg (3 * x1)) ((I 191 (Int32.toNatClampNeg (3 * x1))) ||| x2)) 191 (Int32.toNatClampNeg ((3 * x1) + 1))) dc281_2.1.2.1 rfl (q.2.2.1) rfl rfl ?_
  refine am_s_iload_n rfl dc281_2.1.2.2 ?_
  refine am_s_ior dc281_2.2.1.1 ?_
  refine am_s_iastore dc281_2.2.1.2 rfl (q.2.2.2.1) rfl ?_
  refine am_s_aload_n rfl dc281_2.2.2.1 ?_
  refine am_s_getR (r := 191) dc281_2.2.2.2 rfl rfl rfl (hp _ _ _ rfl) ?_
  refine am_s_iconst am_cc3 dc281_3.1.1.1 ?_
  refine am_s_iload_n rfl dc281_3.1.1.2 ?_
  refine am_s_imul dc281_3.1.2.1 ?_
  refine am_s_iconst am_cc2 dc281_3.1.2.2 ?_
  refine am_s_iadd dc281_3.2.1.1 ?_
  refine am_s_dup2 rfl rfl dc281_3.2.1.2 ?_
  refine am_x_iaload (x := (am_u (am_u I 191 (Int32.toNatClampNeg (3 * x1)) ((I 191 (Int32.toNatClampNeg (3 * x1))) ||| x2)) 191 (Int32.toNatClampNeg ((3 * x1) + 1)) (((am_u I 191 (Int32.toNatClampNeg (3 * x1)) ((I 191 (Int32.toNatClampNeg (3 * x1))) ||| x2)) 191 (Int32.toNatClampNeg ((3 * x1) + 1))) ||| x3)) 191 (Int32.toNatClampNeg ((3 * x1) + 2))) dc281_3.2.2.1 rfl (q.2.2.2.2.1) rfl rfl ?_
  refine am_s_iload rfl dc281_3.2.2.2 ?_
  refine am_s_ior dc281_4.1 ?_
  refine am_s_iastore dc281_4.2.1 rfl (q.2.2.2.2.2.1) rfl ?_
  exact am_s_return dc281_4.2.2 rfl (q.2.2.2.2.2.2)
-- beginsBy (I)V
theorem v282_0 {sc : Option (Nat × (Nat → Int32))} {d k n : Nat} {P : am_O → Prop} {I : am_I} {J : am_J} {Pf : am_R} (hp : am_PF Pf) {x1 : Int32} {l2 : Option Value} {l3 : Option Value} {l4 : Option Value} {l5 : Option Value} (q : (am_in (32 + (3 * x1)) 1040 = true) ∧ (am_go sc d 282 (14, [some (.ref 163), some (.int x1), some (.int (I 167 (Int32.toNatClampNeg (32 + (3 * x1))))), some (.int 0), l4, l5], [], (am_SH, I, J, Pf), k, n) P)) : am_go sc d 282 (0, [some (.ref 163), some (.int x1), l2, l3, l4, l5], [], (am_SH, I, J, Pf), k, n) P := by
  refine am_s_aload_n rfl dc282_0.1.1.1 ?_
  refine am_s_getR (r := 167) dc282_0.1.1.2 rfl rfl rfl (hp _ _ _ rfl) ?_
  refine am_s_bipush am_cb32 dc282_0.1.2.1 ?_
  refine am_s_iconst am_cc3 dc282_0.1.2.2 ?_
  refine am_s_iload_n rfl dc282_0.2.1.1 ?_
  refine am_s_imul dc282_0.2.1.2 ?_
  refine am_s_iadd dc282_0.2.2.1 ?_
  refine am_x_iaload (x := I 167 (Int32.toNatClampNeg (32 + (3 * x1)))) dc282_0.2.2.2 rfl (q.1) rfl rfl ?_
  refine am_s_istore_n (ls' := [some (.ref 163), some (.int x1), some (.int (I 167 (Int32.toNatClampNeg (32 + (3 * x1))))), l3, l4, l5]) rfl rfl dc282_1.1.1.1 ?_
  refine am_s_iconst am_cc0 dc282_1.1.1.2 ?_
  refine am_s_istore_n (ls' := [some (.ref 163), some (.int x1), some (.int (I 167 (Int32.toNatClampNeg (32 + (3 * x1))))), some (.int 0), l4, l5]) rfl rfl dc282_1.1.2.1 ?_
  exact q.2
theorem v282_14 {sc : Option (Nat × (Nat → Int32))} {d k n : Nat} {P : am_O → Prop} {I : am_I} {J : am_J} {Pf : am_R} (hp : am_PF Pf) {x1 : Int32} {x2 : Int32} {x3 : Int32} {l4 : Option Value} {l5 : Option Value} (q : (am_in ((32 + (3 * x1)) + 2) 1040 = true) ∧ (if (I 167 (Int32.toNatClampNeg ((32 + (3 * x1)) + 2))) ≤ x3 then (P (.inl none, (am_SH, I, J, Pf), k, n)) else (am_in ((92 + (((4 * x1) + x3) * 11)) + 1) 1040 = true) ∧ (am_in (92 + (((4 * x1) + x3) * 11)) 1040 = true) ∧ (if (I 167 (Int32.toNatClampNeg (92 + (((4 * x1) + x3) * 11)))) = 0 then (am_in (8 + (3 * (I 167 (Int32.toNatClampNeg ((92 + (((4 * x1) + x3) * 11)) + 1))))) 1040 = true) ∧ (am_in ((8 + (3 * (I 167 (Int32.toNatClampNeg ((92 + (((4 * x1) + x3) * 11)) + 1))))) + 1) 1040 = true) ∧ (am_in ((8 + (3 * (I 167 (Int32.toNatClampNeg ((92 + (((4 * x1) + x3) * 11)) + 1))))) + 2) 1040 = true) ∧ (am_in (3 * x2) 24 = true) ∧ (am_in (3 * x2) 24 = true) ∧ (am_in ((3 * x2) + 1) 24 = true) ∧ (am_in ((3 * x2) + 1) 24 = true) ∧ (am_in ((3 * x2) + 2) 24 = true) ∧ (am_in ((3 * x2) + 2) 24 = true) ∧ (P (.inl none, (am_SH, am_u (am_u (am_u I 191 (Int32.toNatClampNeg (3 * x2)) ((I 191 (Int32.toNatClampNeg (3 * x2))) ||| (I 167 (Int32.toNatClampNeg (8 + (3 * (I 167 (Int32.toNatClampNeg ((92 + (((4 * x1) + x3) * 11)) + 1))))))))) 191 (Int32.toNatClampNeg ((3 * x2) + 1)) (((am_u I 191 (Int32.toNatClampNeg (3 * x2)) ((I 191 (Int32.toNatClampNeg (3 * x2))) ||| (I 167 (Int32.toNatClampNeg (8 + (3 * (I 167 (Int32.toNatClampNeg ((92 + (((4 * x1) + x3) * 11)) + 1))))))))) 191 (Int32.toNatClampNeg ((3 * x2) + 1))) ||| (I 167 (Int32.toNatClampNeg ((8 + (3 * (I 167 (Int32.toNatClampNeg ((92 + (((4 * x1) + x3) * 11)) + 1))))) + 1))))) 191 (Int32.toNatClampNeg ((3 * x2) + 2)) (((am_u (am_u I 191 (Int32.toNatClampNeg (3 * x2)) ((I 191 (Int32.toNatClampNeg (3 * x2))) ||| (I 167 (Int32.toNatClampNeg (8 + (3 * (I 167 (Int32.toNatClampNeg ((92 + (((4 * x1) + x3) * 11)) + 1))))))))) 191 (Int32.toNatClampNeg ((3 * x2) + 1)) (((am_u I 191 (Int32.toNatClampNeg (3 * x2)) ((I 191 (Int32.toNatClampNeg (3 * x2))) ||| (I 167 (Int32.toNatClampNeg (8 + (3 * (I 167 (Int32.toNatClampNeg ((92 + (((4 * x1) + x3) * 11)) + 1))))))))) 191 (Int32.toNatClampNeg ((3 * x2) + 1))) ||| (I 167 (Int32.toNatClampNeg ((8 + (3 * (I 167 (Int32.toNatClampNeg ((92 + (((4 * x1) + x3) * 11)) + 1))))) + 1))))) 191 (Int32.toNatClampNeg ((3 * x2) + 2))) ||| (I 167 (Int32.toNatClampNeg ((8 + (3 * (I 167 (Int32.toNatClampNeg ((92 + (((4 * x1) + x3) * 11)) + 1))))) + 2)))), J, Pf), k, n)) else (am_in (92 + (((4 * x1) + x3) * 11)) 1040 = true) ∧ (if (I 167 (Int32.toNatClampNeg (92 + (((4 * x1) + x3) * 11)))) = 1 then (am_in (3 * (I 167 (Int32.toNatClampNeg ((92 + (((4 * x1) + x3) * 11)) + 1)))) 24 = true) ∧ (am_in ((3 * (I 167 (Int32.toNatClampNeg ((92 + (((4 * x1) + x3) * 11)) + 1)))) + 1) 24 = true) ∧ (am_in ((3 * (I 167 (Int32.toNatClampNeg ((92 + (((4 * x1) + x3) * 11)) + 1)))) + 2) 24 = true) ∧ (am_in (3 * x2) 24 = true) ∧ (am_in (3 * x2) 24 = true) ∧ (am_in ((3 * x2) + 1) 24 = true) ∧ (am_in ((3 * x2) + 1) 24 = true) ∧ (am_in ((3 * x2) + 2) 24 = true) ∧ (am_in ((3 * x2) + 2) 24 = true) ∧ (am_in (I 167 (Int32.toNatClampNeg ((92 + (((4 * x1) + x3) * 11)) + 1))) 8 = true) ∧ (if (I 190 (Int32.toNatClampNeg (I 167 (Int32.toNatClampNeg ((92 + (((4 * x1) + x3) * 11)) + 1))))) = 0 then (P (.inl none, (am_SH, am_u (am_u (am_u I 191 (Int32.toNatClampNeg (3 * x2)) ((I 191 (Int32.toNatClampNeg (3 * x2))) ||| (I 191 (Int32.toNatClampNeg (3 * (I 167 (Int32.toNatClampNeg ((92 + (((4 * x1) + x3) * 11)) + 1)))))))) 191 (Int32.toNatClampNeg ((3 * x2) + 1)) (((am_u I 191 (Int32.toNatClampNeg (3 * x2)) ((I 191 (Int32.toNatClampNeg (3 * x2))) ||| (I 191 (Int32.toNatClampNeg (3 * (I 167 (Int32.toNatClampNeg ((92 + (((4 * x1) + x3) * 11)) + 1)))))))) 191 (Int32.toNatClampNeg ((3 * x2) + 1))) ||| (I 191 (Int32.toNatClampNeg ((3 * (I 167 (Int32.toNatClampNeg ((92 + (((4 * x1) + x3) * 11)) + 1)))) + 1))))) 191 (Int32.toNatClampNeg ((3 * x2) + 2)) (((am_u (am_u I 191 (Int32.toNatClampNeg (3 * x2)) ((I 191 (Int32.toNatClampNeg (3 * x2))) ||| (I 191 (Int32.toNatClampNeg (3 * (I 167 (Int32.toNatClampNeg ((92 + (((4 * x1) + x3) * 11)) + 1)))))))) 191 (Int32.toNatClampNeg ((3 * x2) + 1)) (((am_u I 191 (Int32.toNatClampNeg (3 * x2)) ((I 191 (Int32.toNatClampNeg (3 * x2))) ||| (I 191 (Int32.toNatClampNeg (3 * (I 167 (Int32.toNatClampNeg ((92 + (((4 * x1) + x3) * 11)) + 1)))))))) 191 (Int32.toNatClampNeg ((3 * x2) + 1))) ||| (I 191 (Int32.toNatClampNeg ((3 * (I 167 (Int32.toNatClampNeg ((92 + (((4 * x1) + x3) * 11)) + 1)))) + 1))))) 191 (Int32.toNatClampNeg ((3 * x2) + 2))) ||| (I 191 (Int32.toNatClampNeg ((3 * (I 167 (Int32.toNatClampNeg ((92 + (((4 * x1) + x3) * 11)) + 1)))) + 2)))), J, Pf), k, n)) else (am_go sc (d + 1) 282 (14, [some (.ref 163), some (.int x1), some (.int x2), some (.int (x3 + 1)), some (.int (92 + (((4 * x1) + x3) * 11))), some (.int (I 167 (Int32.toNatClampNeg ((92 + (((4 * x1) + x3) * 11)) + 1))))], [], (am_SH, am_u (am_u (am_u I 191 (Int32.toNatClampNeg (3 * x2)) ((I 191 (Int32.toNatClampNeg (3 * x2))) ||| (I 191 (Int32.toNatClampNeg (3 * (I 167 (Int32.toNatClampNeg ((92 + (((4 * x1) + x3) * 11)) + 1)))))))) 191 (Int32.toNatClampNeg ((3 * x2) + 1)) (((am_u I 191 (Int32.toNatClampNeg (3 * x2)) ((I 191 (Int32.toNatClampNeg (3 * x2))) ||| (I 191 (Int32.toNatClampNeg (3 * (I 167 (Int32.toNatClampNeg ((92 + (((4 * x1) + x3) * 11)) + 1)))))))) 191 (Int32.toNatClampNeg ((3 * x2) + 1))) ||| (I 191 (Int32.toNatClampNeg ((3 * (I 167 (Int32.toNatClampNeg ((92 + (((4 * x1) + x3) * 11)) + 1)))) + 1))))) 191 (Int32.toNatClampNeg ((3 * x2) + 2)) (((am_u (am_u I 191 (Int32.toNatClampNeg (3 * x2)) ((I 191 (Int32.toNatClampNeg (3 * x2))) ||| (I 191 (Int32.toNatClampNeg (3 * (I 167 (Int32.toNatClampNeg ((92 + (((4 * x1) + x3) * 11)) + 1)))))))) 191 (Int32.toNatClampNeg ((3 * x2) + 1)) (((am_u I 191 (Int32.toNatClampNeg (3 * x2)) ((I 191 (Int32.toNatClampNeg (3 * x2))) ||| (I 191 (Int32.toNatClampNeg (3 * (I 167 (Int32.toNatClampNeg ((92 + (((4 * x1) + x3) * 11)) + 1)))))))) 191 (Int32.toNatClampNeg ((3 * x2) + 1))) ||| (I 191 (Int32.toNatClampNeg ((3 * (I 167 (Int32.toNatClampNeg ((92 + (((4 * x1) + x3) * 11)) + 1)))) + 1))))) 191 (Int32.toNatClampNeg ((3 * x2) + 2))) ||| (I 191 (Int32.toNatClampNeg ((3 * (I 167 (Int32.toNatClampNeg ((92 + (((4 * x1) + x3) * 11)) + 1)))) + 2)))), J, Pf), k, n) P)) else (am_in ((92 + (((4 * x1) + x3) * 11)) + 3) 1040 = true) ∧ (if 32 ≤ ((I 167 (Int32.toNatClampNeg ((92 + (((4 * x1) + x3) * 11)) + 3))) - 32) then (if 64 ≤ ((I 167 (Int32.toNatClampNeg ((92 + (((4 * x1) + x3) * 11)) + 3))) - 32) then (am_in (3 * x2) 24 = true) ∧ (am_in (3 * x2) 24 = true) ∧ (am_in ((3 * x2) + 1) 24 = true) ∧ (am_in ((3 * x2) + 1) 24 = true) ∧ (am_in ((3 * x2) + 2) 24 = true) ∧ (am_in ((3 * x2) + 2) 24 = true) ∧ (P (.inl none, (am_SH, am_u (am_u (am_u (am_u (am_u (am_u (am_u I 163 17 0) 163 18 0) 163 19 0) 163 19 ((0 : Int32) ||| ((1 : Int32) <<< ((((I 167 (Int32.toNatClampNeg ((92 + (((4 * x1) + x3) * 11)) + 3))) - 32) - 64) &&& 31)))) 191 (Int32.toNatClampNeg (3 * x2)) ((I 191 (Int32.toNatClampNeg (3 * x2))) ||| 0)) 191 (Int32.toNatClampNeg ((3 * x2) + 1)) (((am_u (am_u (am_u (am_u (am_u I 163 17 0) 163 18 0) 163 19 0) 163 19 ((0 : Int32) ||| ((1 : Int32) <<< ((((I 167 (Int32.toNatClampNeg ((92 + (((4 * x1) + x3) * 11)) + 3))) - 32) - 64) &&& 31)))) 191 (Int32.toNatClampNeg (3 * x2)) ((I 191 (Int32.toNatClampNeg (3 * x2))) ||| 0)) 191 (Int32.toNatClampNeg ((3 * x2) + 1))) ||| 0)) 191 (Int32.toNatClampNeg ((3 * x2) + 2)) (((am_u (am_u (am_u (am_u (am_u (am_u I 163 17 0) 163 18 0) 163 19 0) 163 19 ((0 : Int32) ||| ((1 : Int32) <<< ((((I 167 (Int32.toNatClampNeg ((92 + (((4 * x1) + x3) * 11)) + 3))) - 32) - 64) &&& 31)))) 191 (Int32.toNatClampNeg (3 * x2)) ((I 191 (Int32.toNatClampNeg (3 * x2))) ||| 0)) 191 (Int32.toNatClampNeg ((3 * x2) + 1)) (((am_u (am_u (am_u (am_u (am_u I 163 17 0) 163 18 0) 163 19 0) 163 19 ((0 : Int32) ||| ((1 : Int32) <<< ((((I 167 (Int32.toNatClampNeg ((92 + (((4 * x1) + x3) * 11)) + 3))) - 32) - 64) &&& 31)))) 191 (Int32.toNatClampNeg (3 * x2)) ((I 191 (Int32.toNatClampNeg (3 * x2))) ||| 0)) 191 (Int32.toNatClampNeg ((3 * x2) + 1))) ||| 0)) 191 (Int32.toNatClampNeg ((3 * x2) + 2))) ||| ((0 : Int32) ||| ((1 : Int32) <<< ((((I 167 (Int32.toNatClampNeg ((92 + (((4 * x1) + x3) * 11)) + 3))) - 32) - 64) &&& 31)))), J, Pf), k, n)) else (am_in (3 * x2) 24 = true) ∧ (am_in (3 * x2) 24 = true) ∧ (am_in ((3 * x2) + 1) 24 = true) ∧ (am_in ((3 * x2) + 1) 24 = true) ∧ (am_in ((3 * x2) + 2) 24 = true) ∧ (am_in ((3 * x2) + 2) 24 = true) ∧ (P (.inl none, (am_SH, am_u (am_u (am_u (am_u (am_u (am_u (am_u I 163 17 0) 163 18 0) 163 19 0) 163 18 ((0 : Int32) ||| ((1 : Int32) <<< ((((I 167 (Int32.toNatClampNeg ((92 + (((4 * x1) + x3) * 11)) + 3))) - 32) - 32) &&& 31)))) 191 (Int32.toNatClampNeg (3 * x2)) ((I 191 (Int32.toNatClampNeg (3 * x2))) ||| 0)) 191 (Int32.toNatClampNeg ((3 * x2) + 1)) (((am_u (am_u (am_u (am_u (am_u I 163 17 0) 163 18 0) 163 19 0) 163 18 ((0 : Int32) ||| ((1 : Int32) <<< ((((I 167 (Int32.toNatClampNeg ((92 + (((4 * x1) + x3) * 11)) + 3))) - 32) - 32) &&& 31)))) 191 (Int32.toNatClampNeg (3 * x2)) ((I 191 (Int32.toNatClampNeg (3 * x2))) ||| 0)) 191 (Int32.toNatClampNeg ((3 * x2) + 1))) ||| ((0 : Int32) ||| ((1 : Int32) <<< ((((I 167 (Int32.toNatClampNeg ((92 + (((4 * x1) + x3) * 11)) + 3))) - 32) - 32) &&& 31))))) 191 (Int32.toNatClampNeg ((3 * x2) + 2)) (((am_u (am_u (am_u (am_u (am_u (am_u I 163 17 0) 163 18 0) 163 19 0) 163 18 ((0 : Int32) ||| ((1 : Int32) <<< ((((I 167 (Int32.toNatClampNeg ((92 + (((4 * x1) + x3) * 11)) + 3))) - 32) - 32) &&& 31)))) 191 (Int32.toNatClampNeg (3 * x2)) ((I 191 (Int32.toNatClampNeg (3 * x2))) ||| 0)) 191 (Int32.toNatClampNeg ((3 * x2) + 1)) (((am_u (am_u (am_u (am_u (am_u I 163 17 0) 163 18 0) 163 19 0) 163 18 ((0 : Int32) ||| ((1 : Int32) <<< ((((I 167 (Int32.toNatClampNeg ((92 + (((4 * x1) + x3) * 11)) + 3))) - 32) - 32) &&& 31)))) 191 (Int32.toNatClampNeg (3 * x2)) ((I 191 (Int32.toNatClampNeg (3 * x2))) ||| 0)) 191 (Int32.toNatClampNeg ((3 * x2) + 1))) ||| ((0 : Int32) ||| ((1 : Int32) <<< ((((I 167 (Int32.toNatClampNeg ((92 + (((4 * x1) + x3) * 11)) + 3))) - 32) - 32) &&& 31))))) 191 (Int32.toNatClampNeg ((3 * x2) + 2))) ||| 0), J, Pf), k, n))) else (am_in (3 * x2) 24 = true) ∧ (am_in (3 * x2) 24 = true) ∧ (am_in ((3 * x2) + 1) 24 = true) ∧ (am_in ((3 * x2) + 1) 24 = true) ∧ (am_in ((3 * x2) + 2) 24 = true) ∧ (am_in ((3 * x2) + 2) 24 = true) ∧ (P (.inl none, (am_SH, am_u (am_u (am_u (am_u (am_u (am_u (am_u I 163 17 0) 163 18 0) 163 19 0) 163 17 ((0 : Int32) ||| ((1 : Int32) <<< (((I 167 (Int32.toNatClampNeg ((92 + (((4 * x1) + x3) * 11)) + 3))) - 32) &&& 31)))) 191 (Int32.toNatClampNeg (3 * x2)) ((I 191 (Int32.toNatClampNeg (3 * x2))) ||| ((0 : Int32) ||| ((1 : Int32) <<< (((I 167 (Int32.toNatClampNeg ((92 + (((4 * x1) + x3) * 11)) + 3))) - 32) &&& 31))))) 191 (Int32.toNatClampNeg ((3 * x2) + 1)) (((am_u (am_u (am_u (am_u (am_u I 163 17 0) 163 18 0) 163 19 0) 163 17 ((0 : Int32) ||| ((1 : Int32) <<< (((I 167 (Int32.toNatClampNeg ((92 + (((4 * x1) + x3) * 11)) + 3))) - 32) &&& 31)))) 191 (Int32.toNatClampNeg (3 * x2)) ((I 191 (Int32.toNatClampNeg (3 * x2))) ||| ((0 : Int32) ||| ((1 : Int32) <<< (((I 167 (Int32.toNatClampNeg ((92 + (((4 * x1) + x3) * 11)) + 3))) - 32) &&& 31))))) 191 (Int32.toNatClampNeg ((3 * x2) + 1))) ||| 0)) 191 (Int32.toNatClampNeg ((3 * x2) + 2)) (((am_u (am_u (am_u (am_u (am_u (am_u I 163 17 0) 163 18 0) 163 19 0) 163 17 ((0 : Int32) ||| ((1 : Int32) <<< (((I 167 (Int32.toNatClampNeg ((92 + (((4 * x1) + x3) * 11)) + 3))) - 32) &&& 31)))) 191 (Int32.toNatClampNeg (3 * x2)) ((I 191 (Int32.toNatClampNeg (3 * x2))) ||| ((0 : Int32) ||| ((1 : Int32) <<< (((I 167 (Int32.toNatClampNeg ((92 + (((4 * x1) + x3) * 11)) + 3))) - 32) &&& 31))))) 191 (Int32.toNatClampNeg ((3 * x2) + 1)) (((am_u (am_u (am_u (am_u (am_u I 163 17 0) 163 18 0) 163 19 0) 163 17 ((0 : Int32) ||| ((1 : Int32) <<< (((I 167 (Int32.toNatClampNeg ((92 + (((4 * x1) + x3) * 11)) + 3))) - 32) &&& 31)))) 191 (Int32.toNatClampNeg (3 * x2)) ((I 191 (Int32.toNatClampNeg (3 * x2))) ||| ((0 : Int32) ||| ((1 : Int32) <<< (((I 167 (Int32.toNatClampNeg ((92 + (((4 * x1) + x3) * 11)) + 3))) - 32) &&& 31))))) 191 (Int32.toNatClampNeg ((3 * x2) + 1))) ||| 0)) 191 (Int32.toNatClampNeg ((3 * x2) + 2))) ||| 0), J, Pf), k, n))))))) : am_go sc (d + 1) 282 (14, [some (.ref 163), some (.int x1), some (.int x2), some (.int x3), l4, l5], [], (am_SH, I, J, Pf), k, n) P := by
  refine am_s_iload_n rfl dc282_1.1.2.2 ?_
  refine am_s_aload_n rfl dc282_1.2.1.1 ?_
  refine am_s_getR (r := 167) dc282_1.2.1.2 rfl rfl rfl (hp _ _ _ rfl) ?_
  refine am_s_bipush am_cb32 dc282_1.2.2.1 ?_
  refine am_s_iconst am_cc3 dc282_1.2.2.2 ?_
  refine am_s_iload_n rfl dc282_2.1.1.1 ?_
  refine am_s_imul dc282_2.1.1.2 ?_
  refine am_s_iadd dc282_2.1.2.1 ?_
  refine am_s_iconst am_cc2 dc282_2.1.2.2 ?_
  refine am_s_iadd dc282_2.2.1.1 ?_
  refine am_x_iaload (x := I 167 (Int32.toNatClampNeg ((32 + (3 * x1)) + 2))) dc282_2.2.1.2 rfl (q.1) rfl rfl ?_
  refine am_s_ic_ge dc282_2.2.2.1 rfl (fun c1 => ?_) (fun c1 => ?_)
  · exact am_s_return dc282_17.2.2 rfl ((vi_t q.2 c1))
  · refine am_s_bipush am_cb92 dc282_2.2.2.2 ?_
    refine am_s_iconst am_cc4 dc282_3.1.1.1 ?_
    refine am_s_iload_n rfl dc282_3.1.1.2 ?_
    refine am_s_imul dc282_3.1.2.1 ?_
    refine am_s_iload_n rfl dc282_3.1.2.2 ?_
    refine am_s_iadd dc282_3.2.1.1 ?_
    refine am_s_bipush am_cb11 dc282_3.2.1.2 ?_
    refine am_s_imul dc282_3.2.2.1 ?_
    refine am_s_iadd dc282_3.2.2.2 ?_
    refine am_s_istore (ls' := [some (.ref 163), some (.int x1), some (.int x2), some (.int x3), some (.int (92 + (((4 * x1) + x3) * 11))), l5]) rfl rfl dc282_4.1.1.1 ?_
    refine am_s_aload_n rfl dc282_4.1.1.2 ?_
    refine am_s_getR (r := 167) dc282_4.1.2.1 rfl rfl rfl (hp _ _ _ rfl) ?_
    refine am_s_iload rfl dc282_4.1.2.2 ?_
    refine am_s_iconst am_cc1 dc282_4.2.1.1 ?_
    refine am_s_iadd dc282_4.2.1.2 ?_
    refine am_x_iaload (x := I 167 (Int32.toNatClampNeg ((92 + (((4 * x1) + x3) * 11)) + 1))) dc282_4.2.2.1 rfl ((vi_f q.2 c1).1) rfl rfl ?_
    refine am_s_istore (ls' := [some (.ref 163), some (.int x1), some (.int x2), some (.int x3), some (.int (92 + (((4 * x1) + x3) * 11))), some (.int (I 167 (Int32.toNatClampNeg ((92 + (((4 * x1) + x3) * 11)) + 1))))]) rfl rfl dc282_4.2.2.2 ?_
    refine am_s_aload_n rfl dc282_5.1.1.1 ?_
    refine am_s_getR (r := 167) dc282_5.1.1.2 rfl rfl rfl (hp _ _ _ rfl) ?_
    refine am_s_iload rfl dc282_5.1.2.1 ?_
    refine am_x_iaload (x := I 167 (Int32.toNatClampNeg (92 + (((4 * x1) + x3) * 11)))) dc282_5.1.2.2 rfl ((vi_f q.2 c1).2.1) rfl rfl ?_
    refine am_s_if_ne dc282_5.2.1.1 rfl (fun c2 => ?_) (fun c2 => ?_)
    · refine am_s_aload_n rfl dc282_9.2.1.2 ?_
      refine am_s_getR (r := 167) dc282_9.2.2.1 rfl rfl rfl (hp _ _ _ rfl) ?_
      refine am_s_iload rfl dc282_9.2.2.2 ?_
      refine am_x_iaload (x := I 167 (Int32.toNatClampNeg (92 + (((4 * x1) + x3) * 11)))) dc282_10.1.1.1 rfl ((vi_f (vi_f q.2 c1).2.2 c2).1) rfl rfl ?_
      refine am_s_iconst am_cc1 dc282_10.1.1.2 ?_
      refine am_s_ic_ne dc282_10.1.2.1 rfl (fun c3 => ?_) (fun c3 => ?_)
      · refine am_s_aload_n rfl dc282_14.1.2.1 ?_
        refine am_s_iconst am_cc0 dc282_14.1.2.2 ?_
        refine am_s_iconst am_cc0 dc282_14.2.1.1 ?_
        refine am_s_iconst am_cc0 dc282_14.2.1.2 ?_
        refine am_s_virtual true dc282_14.2.2.1 rfl (by decide) rfl rfl rfl (am_mth_of rfl rfl ?_)
        refine am_s_aload_n rfl dc215_0.1.1.1 ?_
        refine am_s_iload_n rfl dc215_0.1.1.2 ?_
        refine am_s_putI dc215_0.1.2.1 rfl rfl rfl rfl ?_
        refine am_s_aload_n rfl dc215_0.1.2.2 ?_
        refine am_s_iload_n rfl dc215_0.2.1.1 ?_
        refine am_s_putI dc215_0.2.1.2 rfl rfl rfl rfl ?_
        refine am_s_aload_n rfl dc215_0.2.2.1 ?_
        refine am_s_iload_n rfl dc215_0.2.2.2 ?_
        refine am_s_putI dc215_1.1 rfl rfl rfl rfl ?_
        refine am_s_return dc215_1.2 rfl (am_bkV ?_)
        refine am_s_aload_n rfl dc282_14.2.2.2 ?_
        refine am_s_aload_n rfl dc282_15.1.1.1 ?_
        refine am_s_getR (r := 167) dc282_15.1.1.2 rfl rfl rfl (hp _ _ _ rfl) ?_
        refine am_s_iload rfl dc282_15.1.2.1 ?_
        refine am_s_iconst am_cc3 dc282_15.1.2.2 ?_
        refine am_s_iadd dc282_15.2.1.1 ?_
        refine am_x_iaload (x := I 167 (Int32.toNatClampNeg ((92 + (((4 * x1) + x3) * 11)) + 3))) dc282_15.2.1.2 rfl ((vi_f (vi_f (vi_f q.2 c1).2.2 c2).2 c3).1) rfl rfl ?_
        refine am_s_virtual true dc282_15.2.2.1 rfl (by decide) rfl rfl rfl (am_mth_of rfl rfl ?_)
        refine am_s_iload_n rfl dc216_0.1.1.1 ?_
        refine am_s_bipush am_cb32 dc216_0.1.1.2 ?_
        refine am_s_isub dc216_0.1.2.1 ?_
        refine am_s_istore_n (ls' := [some (.ref 163), some (.int (I 167 (Int32.toNatClampNeg ((92 + (((4 * x1) + x3) * 11)) + 3)))), some (.int ((I 167 (Int32.toNatClampNeg ((92 + (((4 * x1) + x3) * 11)) + 3))) - 32))]) rfl rfl dc216_0.1.2.2 ?_
        refine am_s_iload_n rfl dc216_0.2.1.1 ?_
        refine am_s_bipush am_cb32 dc216_0.2.1.2 ?_
        refine am_s_ic_ge dc216_0.2.2.1 rfl (fun c4 => ?_) (fun c4 => ?_)
        · refine am_s_iload_n rfl dc216_2.1.1.1 ?_
          refine am_s_bipush am_cb64 dc216_2.1.1.2 ?_
          refine am_s_ic_ge dc216_2.1.2.1 rfl (fun c5 => ?_) (fun c5 => ?_)
          · refine am_s_aload_n rfl dc216_3.2.2.1 ?_
            refine am_s_dup rfl dc216_3.2.2.2 ?_
            refine am_x_getI (x := 0) dc216_4.1.1.1 rfl rfl (Or.inl rfl) rfl ?_
            refine am_s_iconst am_cc1 dc216_4.1.1.2 ?_
            refine am_s_iload_n rfl dc216_4.1.2.1 ?_
            refine am_s_bipush am_cb64 dc216_4.1.2.2 ?_
            refine am_s_isub dc216_4.2.1.1 ?_
            refine am_s_ishl dc216_4.2.1.2 ?_
            refine am_s_ior dc216_4.2.2.1 ?_
            refine am_s_putI dc216_4.2.2.2 rfl rfl rfl rfl ?_
            refine am_s_return dc216_5 rfl (am_bkV ?_)
            refine am_s_aload_n rfl dc282_15.2.2.2 ?_
            refine am_s_iload_n rfl dc282_16.1.1.1 ?_
            refine am_s_aload_n rfl dc282_16.1.1.2 ?_
            refine am_x_getI (x := 0) dc282_16.1.2.1 rfl rfl (Or.inl rfl) rfl ?_
            refine am_s_aload_n rfl dc282_16.1.2.2 ?_
            refine am_x_getI (x := 0) dc282_16.2.1.1 rfl rfl (Or.inl rfl) rfl ?_
            refine am_s_aload_n rfl dc282_16.2.1.2 ?_
            refine am_x_getI (x := (0 : Int32) ||| ((1 : Int32) <<< ((((I 167 (Int32.toNatClampNeg ((92 + (((4 * x1) + x3) * 11)) + 3))) - 32) - 64) &&& 31))) dc282_16.2.2.1 rfl rfl (Or.inl rfl) rfl ?_
            refine am_s_virtual true dc282_16.2.2.2 rfl (by decide) rfl rfl rfl (am_mth_of rfl rfl ?_)
            refine am_s_aload_n rfl dc281_0.1.1.1 ?_
            refine am_s_getR (r := 191) dc281_0.1.1.2 rfl rfl rfl (hp _ _ _ rfl) ?_
            refine am_s_iconst am_cc3 dc281_0.1.2.1 ?_
            refine am_s_iload_n rfl dc281_0.1.2.2 ?_
            refine am_s_imul dc281_0.2.1.1 ?_
            refine am_s_dup2 rfl rfl dc281_0.2.1.2 ?_
            refine am_x_iaload (x := I 191 (Int32.toNatClampNeg (3 * x2))) dc281_0.2.2.1 rfl ((vi_t (vi_t (vi_f (vi_f (vi_f q.2 c1).2.2 c2).2 c3).2 c4) c5).1) rfl rfl ?_
            refine am_s_iload_n rfl dc281_0.2.2.2 ?_
            refine am_s_ior dc281_1.1.1.1 ?_
            refine am_s_iastore dc281_1.1.1.2 rfl ((vi_t (vi_t (vi_f (vi_f (vi_f q.2 c1).2.2 c2).2 c3).2 c4) c5).2.1) rfl ?_
            refine am_s_aload_n rfl dc281_1.1.2.1 ?_
            refine am_s_getR (r := 191) dc281_1.1.2.2 rfl rfl rfl (hp _ _ _ rfl) ?_
            refine am_s_iconst am_cc3 dc281_1.2.1.1 ?_
            refine am_s_iload_n rfl dc281_1.2.1.2 ?_
            refine am_s_imul dc281_1.2.2.1 ?_
            refine am_s_iconst am_cc1 dc281_1.2.2.2 ?_
            refine am_s_iadd dc281_2.1.1.1 ?_
            refine am_s_dup2 rfl rfl dc281_2.1.1.2 ?_
            refine am_x_iaload (x := (am_u (am_u (am_u (am_u (am_u I 163 17 0) 163 18 0) 163 19 0) 163 19 ((0 : Int32) ||| ((1 : Int32) <<< ((((I 167 (Int32.toNatClampNeg ((92 + (((4 * x1) + x3) * 11)) + 3))) - 32) - 64) &&& 31)))) 191 (Int32.toNatClampNeg (3 * x2)) ((I 191 (Int32.toNatClampNeg (3 * x2))) ||| 0)) 191 (Int32.toNatClampNeg ((3 * x2) + 1))) dc281_2.1.2.1 rfl ((vi_t (vi_t (vi_f (vi_f (vi_f q.2 c1).2.2 c2).2 c3).2 c4) c5).2.2.1) rfl rfl ?_
            refine am_s_iload_n rfl dc281_2.1.2.2 ?_
            refine am_s_ior dc281_2.2.1.1 ?_
            refine am_s_iastore dc281_2.2.1.2 rfl ((vi_t (vi_t (vi_f (vi_f (vi_f q.2 c1).2.2 c2).2 c3).2 c4) c5).2.2.2.1) rfl ?_
            refine am_s_aload_n rfl dc281_2.2.2.1 ?_
            refine am_s_getR (r := 191) dc281_2.2.2.2 rfl rfl rfl (hp _ _ _ rfl) ?_
            refine am_s_iconst am_cc3 dc281_3.1.1.1 ?_
            refine am_s_iload_n rfl dc281_3.1.1.2 ?_
            refine am_s_imul dc281_3.1.2.1 ?_
            refine am_s_iconst am_cc2 dc281_3.1.2.2 ?_
            refine am_s_iadd dc281_3.2.1.1 ?_
            refine am_s_dup2 rfl rfl dc281_3.2.1.2 ?_
            refine am_x_iaload (x := (am_u (am_u (am_u (am_u (am_u (am_u I 163 17 0) 163 18 0) 163 19 0) 163 19 ((0 : Int32) ||| ((1 : Int32) <<< ((((I 167 (Int32.toNatClampNeg ((92 + (((4 * x1) + x3) * 11)) + 3))) - 32) - 64) &&& 31)))) 191 (Int32.toNatClampNeg (3 * x2)) ((I 191 (Int32.toNatClampNeg (3 * x2))) ||| 0)) 191 (Int32.toNatClampNeg ((3 * x2) + 1)) (((am_u (am_u (am_u (am_u (am_u I 163 17 0) 163 18 0) 163 19 0) 163 19 ((0 : Int32) ||| ((1 : Int32) <<< ((((I 167 (Int32.toNatClampNeg ((92 + (((4 * x1) + x3) * 11)) + 3))) - 32) - 64) &&& 31)))) 191 (Int32.toNatClampNeg (3 * x2)) ((I 191 (Int32.toNatClampNeg (3 * x2))) ||| 0)) 191 (Int32.toNatClampNeg ((3 * x2) + 1))) ||| 0)) 191 (Int32.toNatClampNeg ((3 * x2) + 2))) dc281_3.2.2.1 rfl ((vi_t (vi_t (vi_f (vi_f (vi_f q.2 c1).2.2 c2).2 c3).2 c4) c5).2.2.2.2.1) rfl rfl ?_
            refine am_s_iload rfl dc281_3.2.2.2 ?_
            refine am_s_ior dc281_4.1 ?_
            refine am_s_iastore dc281_4.2.1 rfl ((vi_t (vi_t (vi_f (vi_f (vi_f q.2 c1).2.2 c2).2 c3).2 c4) c5).2.2.2.2.2.1) rfl ?_
            refine am_s_return dc281_4.2.2 rfl (am_bkV ?_)
            exact am_s_return dc282_17.1.1 rfl ((vi_t (vi_t (vi_f (vi_f (vi_f q.2 c1).2.2 c2).2 c3).2 c4) c5).2.2.2.2.2.2)
          · refine am_s_aload_n rfl dc216_2.1.2.2 ?_
            refine am_s_dup rfl dc216_2.2.1.1 ?_
            refine am_x_getI (x := 0) dc216_2.2.1.2 rfl rfl (Or.inl rfl) rfl ?_
            refine am_s_iconst am_cc1 dc216_2.2.2.1 ?_
            refine am_s_iload_n rfl dc216_2.2.2.2 ?_
            refine am_s_bipush am_cb32 dc216_3.1.1.1 ?_
            refine am_s_isub dc216_3.1.1.2 ?_
            refine am_s_ishl dc216_3.1.2.1 ?_
            refine am_s_ior dc216_3.1.2.2 ?_
            refine am_s_putI dc216_3.2.1.1 rfl rfl rfl rfl ?_
            refine am_s_goto rfl dc216_3.2.1.2 ?_
            refine am_s_return dc216_5 rfl (am_bkV ?_)
            refine am_s_aload_n rfl dc282_15.2.2.2 ?_
            refine am_s_iload_n rfl dc282_16.1.1.1 ?_
            refine am_s_aload_n rfl dc282_16.1.1.2 ?_
            refine am_x_getI (x := 0) dc282_16.1.2.1 rfl rfl (Or.inl rfl) rfl ?_
            refine am_s_aload_n rfl dc282_16.1.2.2 ?_
            refine am_x_getI (x := (0 : Int32) ||| ((1 : Int32) <<< ((((I 167 (Int32.toNatClampNeg ((92 + (((4 * x1) + x3) * 11)) + 3))) - 32) - 32) &&& 31))) dc282_16.2.1.1 rfl rfl (Or.inl rfl) rfl ?_
            refine am_s_aload_n rfl dc282_16.2.1.2 ?_
            refine am_x_getI (x := 0) dc282_16.2.2.1 rfl rfl (Or.inl rfl) rfl ?_
            refine am_s_virtual true dc282_16.2.2.2 rfl (by decide) rfl rfl rfl (am_mth_of rfl rfl ?_)
            refine am_s_aload_n rfl dc281_0.1.1.1 ?_
            refine am_s_getR (r := 191) dc281_0.1.1.2 rfl rfl rfl (hp _ _ _ rfl) ?_
            refine am_s_iconst am_cc3 dc281_0.1.2.1 ?_
            refine am_s_iload_n rfl dc281_0.1.2.2 ?_
            refine am_s_imul dc281_0.2.1.1 ?_
            refine am_s_dup2 rfl rfl dc281_0.2.1.2 ?_
            refine am_x_iaload (x := I 191 (Int32.toNatClampNeg (3 * x2))) dc281_0.2.2.1 rfl ((vi_f (vi_t (vi_f (vi_f (vi_f q.2 c1).2.2 c2).2 c3).2 c4) c5).1) rfl rfl ?_
            refine am_s_iload_n rfl dc281_0.2.2.2 ?_
            refine am_s_ior dc281_1.1.1.1 ?_
            refine am_s_iastore dc281_1.1.1.2 rfl ((vi_f (vi_t (vi_f (vi_f (vi_f q.2 c1).2.2 c2).2 c3).2 c4) c5).2.1) rfl ?_
            refine am_s_aload_n rfl dc281_1.1.2.1 ?_
            refine am_s_getR (r := 191) dc281_1.1.2.2 rfl rfl rfl (hp _ _ _ rfl) ?_
            refine am_s_iconst am_cc3 dc281_1.2.1.1 ?_
            refine am_s_iload_n rfl dc281_1.2.1.2 ?_
            refine am_s_imul dc281_1.2.2.1 ?_
            refine am_s_iconst am_cc1 dc281_1.2.2.2 ?_
            refine am_s_iadd dc281_2.1.1.1 ?_
            refine am_s_dup2 rfl rfl dc281_2.1.1.2 ?_
            refine am_x_iaload (x := (am_u (am_u (am_u (am_u (am_u I 163 17 0) 163 18 0) 163 19 0) 163 18 ((0 : Int32) ||| ((1 : Int32) <<< ((((I 167 (Int32.toNatClampNeg ((92 + (((4 * x1) + x3) * 11)) + 3))) - 32) - 32) &&& 31)))) 191 (Int32.toNatClampNeg (3 * x2)) ((I 191 (Int32.toNatClampNeg (3 * x2))) ||| 0)) 191 (Int32.toNatClampNeg ((3 * x2) + 1))) dc281_2.1.2.1 rfl ((vi_f (vi_t (vi_f (vi_f (vi_f q.2 c1).2.2 c2).2 c3).2 c4) c5).2.2.1) rfl rfl ?_
            refine am_s_iload_n rfl dc281_2.1.2.2 ?_
            refine am_s_ior dc281_2.2.1.1 ?_
            refine am_s_iastore dc281_2.2.1.2 rfl ((vi_f (vi_t (vi_f (vi_f (vi_f q.2 c1).2.2 c2).2 c3).2 c4) c5).2.2.2.1) rfl ?_
            refine am_s_aload_n rfl dc281_2.2.2.1 ?_
            refine am_s_getR (r := 191) dc281_2.2.2.2 rfl rfl rfl (hp _ _ _ rfl) ?_
            refine am_s_iconst am_cc3 dc281_3.1.1.1 ?_
            refine am_s_iload_n rfl dc281_3.1.1.2 ?_
            refine am_s_imul dc281_3.1.2.1 ?_
            refine am_s_iconst am_cc2 dc281_3.1.2.2 ?_
            refine am_s_iadd dc281_3.2.1.1 ?_
            refine am_s_dup2 rfl rfl dc281_3.2.1.2 ?_
            refine am_x_iaload (x := (am_u (am_u (am_u (am_u (am_u (am_u I 163 17 0) 163 18 0) 163 19 0) 163 18 ((0 : Int32) ||| ((1 : Int32) <<< ((((I 167 (Int32.toNatClampNeg ((92 + (((4 * x1) + x3) * 11)) + 3))) - 32) - 32) &&& 31)))) 191 (Int32.toNatClampNeg (3 * x2)) ((I 191 (Int32.toNatClampNeg (3 * x2))) ||| 0)) 191 (Int32.toNatClampNeg ((3 * x2) + 1)) (((am_u (am_u (am_u (am_u (am_u I 163 17 0) 163 18 0) 163 19 0) 163 18 ((0 : Int32) ||| ((1 : Int32) <<< ((((I 167 (Int32.toNatClampNeg ((92 + (((4 * x1) + x3) * 11)) + 3))) - 32) - 32) &&& 31)))) 191 (Int32.toNatClampNeg (3 * x2)) ((I 191 (Int32.toNatClampNeg (3 * x2))) ||| 0)) 191 (Int32.toNatClampNeg ((3 * x2) + 1))) ||| ((0 : Int32) ||| ((1 : Int32) <<< ((((I 167 (Int32.toNatClampNeg ((92 + (((4 * x1) + x3) * 11)) + 3))) - 32) - 32) &&& 31))))) 191 (Int32.toNatClampNeg ((3 * x2) + 2))) dc281_3.2.2.1 rfl ((vi_f (vi_t (vi_f (vi_f (vi_f q.2 c1).2.2 c2).2 c3).2 c4) c5).2.2.2.2.1) rfl rfl ?_
            refine am_s_iload rfl dc281_3.2.2.2 ?_
            refine am_s_ior dc281_4.1 ?_
            refine am_s_iastore dc281_4.2.1 rfl ((vi_f (vi_t (vi_f (vi_f (vi_f q.2 c1).2.2 c2).2 c3).2 c4) c5).2.2.2.2.2.1) rfl ?_
            refine am_s_return dc281_4.2.2 rfl (am_bkV ?_)
            exact am_s_return dc282_17.1.1 rfl ((vi_f (vi_t (vi_f (vi_f (vi_f q.2 c1).2.2 c2).2 c3).2 c4) c5).2.2.2.2.2.2)
        · refine am_s_aload_n rfl dc216_0.2.2.2 ?_
          refine am_s_dup rfl dc216_1.1.1.1 ?_
          refine am_x_getI (x := 0) dc216_1.1.1.2 rfl rfl (Or.inl rfl) rfl ?_
          refine am_s_iconst am_cc1 dc216_1.1.2.1 ?_
          refine am_s_iload_n rfl dc216_1.1.2.2 ?_
          refine am_s_ishl dc216_1.2.1.1 ?_
          refine am_s_ior dc216_1.2.1.2 ?_
          refine am_s_putI dc216_1.2.2.1 rfl rfl rfl rfl ?_
          refine am_s_goto rfl dc216_1.2.2.2 ?_
          refine am_s_return dc216_5 rfl (am_bkV ?_)
          refine am_s_aload_n rfl dc282_15.2.2.2 ?_
          refine am_s_iload_n rfl dc282_16.1.1.1 ?_
          refine am_s_aload_n rfl dc282_16.1.1.2 ?_
          refine am_x_getI (x := (0 : Int32) ||| ((1 : Int32) <<< (((I 167 (Int32.toNatClampNeg ((92 + (((4 * x1) + x3) * 11)) + 3))) - 32) &&& 31))) dc282_16.1.2.1 rfl rfl (Or.inl rfl) rfl ?_
          refine am_s_aload_n rfl dc282_16.1.2.2 ?_
          refine am_x_getI (x := 0) dc282_16.2.1.1 rfl rfl (Or.inl rfl) rfl ?_
          refine am_s_aload_n rfl dc282_16.2.1.2 ?_
          refine am_x_getI (x := 0) dc282_16.2.2.1 rfl rfl (Or.inl rfl) rfl ?_
          refine am_s_virtual true dc282_16.2.2.2 rfl (by decide) rfl rfl rfl (am_mth_of rfl rfl ?_)
          refine am_s_aload_n rfl dc281_0.1.1.1 ?_
          refine am_s_getR (r := 191) dc281_0.1.1.2 rfl rfl rfl (hp _ _ _ rfl) ?_
          refine am_s_iconst am_cc3 dc281_0.1.2.1 ?_
          refine am_s_iload_n rfl dc281_0.1.2.2 ?_
          refine am_s_imul dc281_0.2.1.1 ?_
          refine am_s_dup2 rfl rfl dc281_0.2.1.2 ?_
          refine am_x_iaload (x := I 191 (Int32.toNatClampNeg (3 * x2))) dc281_0.2.2.1 rfl ((vi_f (vi_f (vi_f (vi_f q.2 c1).2.2 c2).2 c3).2 c4).1) rfl rfl ?_
          refine am_s_iload_n rfl dc281_0.2.2.2 ?_
          refine am_s_ior dc281_1.1.1.1 ?_
          refine am_s_iastore dc281_1.1.1.2 rfl ((vi_f (vi_f (vi_f (vi_f q.2 c1).2.2 c2).2 c3).2 c4).2.1) rfl ?_
          refine am_s_aload_n rfl dc281_1.1.2.1 ?_
          refine am_s_getR (r := 191) dc281_1.1.2.2 rfl rfl rfl (hp _ _ _ rfl) ?_
          refine am_s_iconst am_cc3 dc281_1.2.1.1 ?_
          refine am_s_iload_n rfl dc281_1.2.1.2 ?_
          refine am_s_imul dc281_1.2.2.1 ?_
          refine am_s_iconst am_cc1 dc281_1.2.2.2 ?_
          refine am_s_iadd dc281_2.1.1.1 ?_
          refine am_s_dup2 rfl rfl dc281_2.1.1.2 ?_
          refine am_x_iaload (x := (am_u (am_u (am_u (am_u (am_u I 163 17 0) 163 18 0) 163 19 0) 163 17 ((0 : Int32) ||| ((1 : Int32) <<< (((I 167 (Int32.toNatClampNeg ((92 + (((4 * x1) + x3) * 11)) + 3))) - 32) &&& 31)))) 191 (Int32.toNatClampNeg (3 * x2)) ((I 191 (Int32.toNatClampNeg (3 * x2))) ||| ((0 : Int32) ||| ((1 : Int32) <<< (((I 167 (Int32.toNatClampNeg ((92 + (((4 * x1) + x3) * 11)) + 3))) - 32) &&& 31))))) 191 (Int32.toNatClampNeg ((3 * x2) + 1))) dc281_2.1.2.1 rfl ((vi_f (vi_f (vi_f (vi_f q.2 c1).2.2 c2).2 c3).2 c4).2.2.1) rfl rfl ?_
          refine am_s_iload_n rfl dc281_2.1.2.2 ?_
          refine am_s_ior dc281_2.2.1.1 ?_
          refine am_s_iastore dc281_2.2.1.2 rfl ((vi_f (vi_f (vi_f (vi_f q.2 c1).2.2 c2).2 c3).2 c4).2.2.2.1) rfl ?_
          refine am_s_aload_n rfl dc281_2.2.2.1 ?_
          refine am_s_getR (r := 191) dc281_2.2.2.2 rfl rfl rfl (hp _ _ _ rfl) ?_
          refine am_s_iconst am_cc3 dc281_3.1.1.1 ?_
          refine am_s_iload_n rfl dc281_3.1.1.2 ?_
          refine am_s_imul dc281_3.1.2.1 ?_
          refine am_s_iconst am_cc2 dc281_3.1.2.2 ?_
          refine am_s_iadd dc281_3.2.1.1 ?_
          refine am_s_dup2 rfl rfl dc281_3.2.1.2 ?_
          refine am_x_iaload (x := (am_u (am_u (am_u (am_u (am_u (am_u I 163 17 0) 163 18 0) 163 19 0) 163 17 ((0 : Int32) ||| ((1 : Int32) <<< (((I 167 (Int32.toNatClampNeg ((92 + (((4 * x1) + x3) * 11)) + 3))) - 32) &&& 31)))) 191 (Int32.toNatClampNeg (3 * x2)) ((I 191 (Int32.toNatClampNeg (3 * x2))) ||| ((0 : Int32) ||| ((1 : Int32) <<< (((I 167 (Int32.toNatClampNeg ((92 + (((4 * x1) + x3) * 11)) + 3))) - 32) &&& 31))))) 191 (Int32.toNatClampNeg ((3 * x2) + 1)) (((am_u (am_u (am_u (am_u (am_u I 163 17 0) 163 18 0) 163 19 0) 163 17 ((0 : Int32) ||| ((1 : Int32) <<< (((I 167 (Int32.toNatClampNeg ((92 + (((4 * x1) + x3) * 11)) + 3))) - 32) &&& 31)))) 191 (Int32.toNatClampNeg (3 * x2)) ((I 191 (Int32.toNatClampNeg (3 * x2))) ||| ((0 : Int32) ||| ((1 : Int32) <<< (((I 167 (Int32.toNatClampNeg ((92 + (((4 * x1) + x3) * 11)) + 3))) - 32) &&& 31))))) 191 (Int32.toNatClampNeg ((3 * x2) + 1))) ||| 0)) 191 (Int32.toNatClampNeg ((3 * x2) + 2))) dc281_3.2.2.1 rfl ((vi_f (vi_f (vi_f (vi_f q.2 c1).2.2 c2).2 c3).2 c4).2.2.2.2.1) rfl rfl ?_
          refine am_s_iload rfl dc281_3.2.2.2 ?_
          refine am_s_ior dc281_4.1 ?_
          refine am_s_iastore dc281_4.2.1 rfl ((vi_f (vi_f (vi_f (vi_f q.2 c1).2.2 c2).2 c3).2 c4).2.2.2.2.2.1) rfl ?_
          refine am_s_return dc281_4.2.2 rfl (am_bkV ?_)
          exact am_s_return dc282_17.1.1 rfl ((vi_f (vi_f (vi_f (vi_f q.2 c1).2.2 c2).2 c3).2 c4).2.2.2.2.2.2)
      · refine am_s_aload_n rfl dc282_10.1.2.2 ?_
        refine am_s_iload_n rfl dc282_10.2.1.1 ?_
        refine am_s_aload_n rfl dc282_10.2.1.2 ?_
        refine am_s_getR (r := 191) dc282_10.2.2.1 rfl rfl rfl (hp _ _ _ rfl) ?_
        refine am_s_iconst am_cc3 dc282_10.2.2.2 ?_
        refine am_s_iload rfl dc282_11.1.1.1 ?_
        refine am_s_imul dc282_11.1.1.2 ?_
        refine am_x_iaload (x := I 191 (Int32.toNatClampNeg (3 * (I 167 (Int32.toNatClampNeg ((92 + (((4 * x1) + x3) * 11)) + 1)))))) dc282_11.1.2.1 rfl ((vi_t (vi_f (vi_f q.2 c1).2.2 c2).2 (Decidable.not_not.mp c3)).1) rfl rfl ?_
        refine am_s_aload_n rfl dc282_11.1.2.2 ?_
        refine am_s_getR (r := 191) dc282_11.2.1.1 rfl rfl rfl (hp _ _ _ rfl) ?_
        refine am_s_iconst am_cc3 dc282_11.2.1.2 ?_
        refine am_s_iload rfl dc282_11.2.2.1 ?_
        refine am_s_imul dc282_11.2.2.2 ?_
        refine am_s_iconst am_cc1 dc282_12.1.1.1 ?_
        refine am_s_iadd dc282_12.1.1.2 ?_
        refine am_x_iaload (x := I 191 (Int32.toNatClampNeg ((3 * (I 167 (Int32.toNatClampNeg ((92 + (((4 * x1) + x3) * 11)) + 1)))) + 1))) dc282_12.1.2.1 rfl ((vi_t (vi_f (vi_f q.2 c1).2.2 c2).2 (Decidable.not_not.mp c3)).2.1) rfl rfl ?_
        refine am_s_aload_n rfl dc282_12.1.2.2 ?_
        refine am_s_getR (r := 191) dc282_12.2.1.1 rfl rfl rfl (hp _ _ _ rfl) ?_
        refine am_s_iconst am_cc3 dc282_12.2.1.2 ?_
        refine am_s_iload rfl dc282_12.2.2.1 ?_
        refine am_s_imul dc282_12.2.2.2 ?_
        refine am_s_iconst am_cc2 dc282_13.1.1.1 ?_
        refine am_s_iadd dc282_13.1.1.2 ?_
        refine am_x_iaload (x := I 191 (Int32.toNatClampNeg ((3 * (I 167 (Int32.toNatClampNeg ((92 + (((4 * x1) + x3) * 11)) + 1)))) + 2))) dc282_13.1.2.1 rfl ((vi_t (vi_f (vi_f q.2 c1).2.2 c2).2 (Decidable.not_not.mp c3)).2.2.1) rfl rfl ?_
        refine am_s_virtual true dc282_13.1.2.2 rfl (by decide) rfl rfl rfl (am_mth_of rfl rfl ?_)
        refine am_s_aload_n rfl dc281_0.1.1.1 ?_
        refine am_s_getR (r := 191) dc281_0.1.1.2 rfl rfl rfl (hp _ _ _ rfl) ?_
        refine am_s_iconst am_cc3 dc281_0.1.2.1 ?_
        refine am_s_iload_n rfl dc281_0.1.2.2 ?_
        refine am_s_imul dc281_0.2.1.1 ?_
        refine am_s_dup2 rfl rfl dc281_0.2.1.2 ?_
        refine am_x_iaload (x := I 191 (Int32.toNatClampNeg (3 * x2))) dc281_0.2.2.1 rfl ((vi_t (vi_f (vi_f q.2 c1).2.2 c2).2 (Decidable.not_not.mp c3)).2.2.2.1) rfl rfl ?_
        refine am_s_iload_n rfl dc281_0.2.2.2 ?_
        refine am_s_ior dc281_1.1.1.1 ?_
        refine am_s_iastore dc281_1.1.1.2 rfl ((vi_t (vi_f (vi_f q.2 c1).2.2 c2).2 (Decidable.not_not.mp c3)).2.2.2.2.1) rfl ?_
        refine am_s_aload_n rfl dc281_1.1.2.1 ?_
        refine am_s_getR (r := 191) dc281_1.1.2.2 rfl rfl rfl (hp _ _ _ rfl) ?_
        refine am_s_iconst am_cc3 dc281_1.2.1.1 ?_
        refine am_s_iload_n rfl dc281_1.2.1.2 ?_
        refine am_s_imul dc281_1.2.2.1 ?_
        refine am_s_iconst am_cc1 dc281_1.2.2.2 ?_
        refine am_s_iadd dc281_2.1.1.1 ?_
        refine am_s_dup2 rfl rfl dc281_2.1.1.2 ?_
        refine am_x_iaload (x := (am_u I 191 (Int32.toNatClampNeg (3 * x2)) ((I 191 (Int32.toNatClampNeg (3 * x2))) ||| (I 191 (Int32.toNatClampNeg (3 * (I 167 (Int32.toNatClampNeg ((92 + (((4 * x1) + x3) * 11)) + 1)))))))) 191 (Int32.toNatClampNeg ((3 * x2) + 1))) dc281_2.1.2.1 rfl ((vi_t (vi_f (vi_f q.2 c1).2.2 c2).2 (Decidable.not_not.mp c3)).2.2.2.2.2.1) rfl rfl ?_
        refine am_s_iload_n rfl dc281_2.1.2.2 ?_
        refine am_s_ior dc281_2.2.1.1 ?_
        refine am_s_iastore dc281_2.2.1.2 rfl ((vi_t (vi_f (vi_f q.2 c1).2.2 c2).2 (Decidable.not_not.mp c3)).2.2.2.2.2.2.1) rfl ?_
        refine am_s_aload_n rfl dc281_2.2.2.1 ?_
        refine am_s_getR (r := 191) dc281_2.2.2.2 rfl rfl rfl (hp _ _ _ rfl) ?_
        refine am_s_iconst am_cc3 dc281_3.1.1.1 ?_
        refine am_s_iload_n rfl dc281_3.1.1.2 ?_
        refine am_s_imul dc281_3.1.2.1 ?_
        refine am_s_iconst am_cc2 dc281_3.1.2.2 ?_
        refine am_s_iadd dc281_3.2.1.1 ?_
        refine am_s_dup2 rfl rfl dc281_3.2.1.2 ?_
        refine am_x_iaload (x := (am_u (am_u I 191 (Int32.toNatClampNeg (3 * x2)) ((I 191 (Int32.toNatClampNeg (3 * x2))) ||| (I 191 (Int32.toNatClampNeg (3 * (I 167 (Int32.toNatClampNeg ((92 + (((4 * x1) + x3) * 11)) + 1)))))))) 191 (Int32.toNatClampNeg ((3 * x2) + 1)) (((am_u I 191 (Int32.toNatClampNeg (3 * x2)) ((I 191 (Int32.toNatClampNeg (3 * x2))) ||| (I 191 (Int32.toNatClampNeg (3 * (I 167 (Int32.toNatClampNeg ((92 + (((4 * x1) + x3) * 11)) + 1)))))))) 191 (Int32.toNatClampNeg ((3 * x2) + 1))) ||| (I 191 (Int32.toNatClampNeg ((3 * (I 167 (Int32.toNatClampNeg ((92 + (((4 * x1) + x3) * 11)) + 1)))) + 1))))) 191 (Int32.toNatClampNeg ((3 * x2) + 2))) dc281_3.2.2.1 rfl ((vi_t (vi_f (vi_f q.2 c1).2.2 c2).2 (Decidable.not_not.mp c3)).2.2.2.2.2.2.2.1) rfl rfl ?_
        refine am_s_iload rfl dc281_3.2.2.2 ?_
        refine am_s_ior dc281_4.1 ?_
        refine am_s_iastore dc281_4.2.1 rfl ((vi_t (vi_f (vi_f q.2 c1).2.2 c2).2 (Decidable.not_not.mp c3)).2.2.2.2.2.2.2.2.1) rfl ?_
        refine am_s_return dc281_4.2.2 rfl (am_bkV ?_)
        refine am_s_aload_n rfl dc282_13.2.1.1 ?_
        refine am_s_getR (r := 190) dc282_13.2.1.2 rfl rfl rfl (hp _ _ _ rfl) ?_
        refine am_s_iload rfl dc282_13.2.2.1 ?_
        refine am_x_baload (x := I 190 (Int32.toNatClampNeg (I 167 (Int32.toNatClampNeg ((92 + (((4 * x1) + x3) * 11)) + 1))))) dc282_13.2.2.2 rfl ((vi_t (vi_f (vi_f q.2 c1).2.2 c2).2 (Decidable.not_not.mp c3)).2.2.2.2.2.2.2.2.2.1) rfl rfl ?_
        refine am_s_if_eq dc282_14.1.1.1 rfl (fun c4 => ?_) (fun c4 => ?_)
        · exact am_s_return dc282_17.1.1 rfl ((vi_t (vi_t (vi_f (vi_f q.2 c1).2.2 c2).2 (Decidable.not_not.mp c3)).2.2.2.2.2.2.2.2.2.2 c4))
        · refine am_s_goto rfl dc282_14.1.1.2 ?_
          refine am_s_iinc (ls' := [some (.ref 163), some (.int x1), some (.int x2), some (.int (x3 + 1)), some (.int (92 + (((4 * x1) + x3) * 11))), some (.int (I 167 (Int32.toNatClampNeg ((92 + (((4 * x1) + x3) * 11)) + 1))))]) am_cc1 rfl rfl dc282_17.1.2 ?_
          refine am_s_goto rfl dc282_17.2.1 ?_
          exact (vi_f (vi_t (vi_f (vi_f q.2 c1).2.2 c2).2 (Decidable.not_not.mp c3)).2.2.2.2.2.2.2.2.2.2 c4)
    · refine am_s_aload_n rfl dc282_5.2.1.2 ?_
      refine am_s_iload_n rfl dc282_5.2.2.1 ?_
      refine am_s_aload_n rfl dc282_5.2.2.2 ?_
      refine am_s_getR (r := 167) dc282_6.1.1.1 rfl rfl rfl (hp _ _ _ rfl) ?_
      refine am_s_bipush am_cb8 dc282_6.1.1.2 ?_
      refine am_s_iconst am_cc3 dc282_6.1.2.1 ?_
      refine am_s_iload rfl dc282_6.1.2.2 ?_
      refine am_s_imul dc282_6.2.1.1 ?_
      refine am_s_iadd dc282_6.2.1.2 ?_
      refine am_x_iaload (x := I 167 (Int32.toNatClampNeg (8 + (3 * (I 167 (Int32.toNatClampNeg ((92 + (((4 * x1) + x3) * 11)) + 1))))))) dc282_6.2.2.1 rfl ((vi_t (vi_f q.2 c1).2.2 (Decidable.not_not.mp c2)).1) rfl rfl ?_
      refine am_s_aload_n rfl dc282_6.2.2.2 ?_
      refine am_s_getR (r := 167) dc282_7.1.1.1 rfl rfl rfl (hp _ _ _ rfl) ?_
      refine am_s_bipush am_cb8 dc282_7.1.1.2 ?_
      refine am_s_iconst am_cc3 dc282_7.1.2.1 ?_
      refine am_s_iload rfl dc282_7.1.2.2 ?_
      refine am_s_imul dc282_7.2.1.1 ?_
      refine am_s_iadd dc282_7.2.1.2 ?_
      refine am_s_iconst am_cc1 dc282_7.2.2.1 ?_
      refine am_s_iadd dc282_7.2.2.2 ?_
      refine am_x_iaload (x := I 167 (Int32.toNatClampNeg ((8 + (3 * (I 167 (Int32.toNatClampNeg ((92 + (((4 * x1) + x3) * 11)) + 1))))) + 1))) dc282_8.1.1.1 rfl ((vi_t (vi_f q.2 c1).2.2 (Decidable.not_not.mp c2)).2.1) rfl rfl ?_
      refine am_s_aload_n rfl dc282_8.1.1.2 ?_
      refine am_s_getR (r := 167) dc282_8.1.2.1 rfl rfl rfl (hp _ _ _ rfl) ?_
      refine am_s_bipush am_cb8 dc282_8.1.2.2 ?_
      refine am_s_iconst am_cc3 dc282_8.2.1.1 ?_
      refine am_s_iload rfl dc282_8.2.1.2 ?_
      refine am_s_imul dc282_8.2.2.1 ?_
      refine am_s_iadd dc282_8.2.2.2 ?_
      refine am_s_iconst am_cc2 dc282_9.1.1.1 ?_
      refine am_s_iadd dc282_9.1.1.2 ?_
      refine am_x_iaload (x := I 167 (Int32.toNatClampNeg ((8 + (3 * (I 167 (Int32.toNatClampNeg ((92 + (((4 * x1) + x3) * 11)) + 1))))) + 2))) dc282_9.1.2.1 rfl ((vi_t (vi_f q.2 c1).2.2 (Decidable.not_not.mp c2)).2.2.1) rfl rfl ?_
      refine am_s_virtual true dc282_9.1.2.2 rfl (by decide) rfl rfl rfl (am_mth_of rfl rfl ?_)
      refine am_s_aload_n rfl dc281_0.1.1.1 ?_
      refine am_s_getR (r := 191) dc281_0.1.1.2 rfl rfl rfl (hp _ _ _ rfl) ?_
      refine am_s_iconst am_cc3 dc281_0.1.2.1 ?_
      refine am_s_iload_n rfl dc281_0.1.2.2 ?_
      refine am_s_imul dc281_0.2.1.1 ?_
      refine am_s_dup2 rfl rfl dc281_0.2.1.2 ?_
      refine am_x_iaload (x := I 191 (Int32.toNatClampNeg (3 * x2))) dc281_0.2.2.1 rfl ((vi_t (vi_f q.2 c1).2.2 (Decidable.not_not.mp c2)).2.2.2.1) rfl rfl ?_
      refine am_s_iload_n rfl dc281_0.2.2.2 ?_
      refine am_s_ior dc281_1.1.1.1 ?_
      refine am_s_iastore dc281_1.1.1.2 rfl ((vi_t (vi_f q.2 c1).2.2 (Decidable.not_not.mp c2)).2.2.2.2.1) rfl ?_
      refine am_s_aload_n rfl dc281_1.1.2.1 ?_
      refine am_s_getR (r := 191) dc281_1.1.2.2 rfl rfl rfl (hp _ _ _ rfl) ?_
      refine am_s_iconst am_cc3 dc281_1.2.1.1 ?_
      refine am_s_iload_n rfl dc281_1.2.1.2 ?_
      refine am_s_imul dc281_1.2.2.1 ?_
      refine am_s_iconst am_cc1 dc281_1.2.2.2 ?_
      refine am_s_iadd dc281_2.1.1.1 ?_
      refine am_s_dup2 rfl rfl dc281_2.1.1.2 ?_
      refine am_x_iaload (x := (am_u I 191 (Int32.toNatClampNeg (3 * x2)) ((I 191 (Int32.toNatClampNeg (3 * x2))) ||| (I 167 (Int32.toNatClampNeg (8 + (3 * (I 167 (Int32.toNatClampNeg ((92 + (((4 * x1) + x3) * 11)) + 1))))))))) 191 (Int32.toNatClampNeg ((3 * x2) + 1))) dc281_2.1.2.1 rfl ((vi_t (vi_f q.2 c1).2.2 (Decidable.not_not.mp c2)).2.2.2.2.2.1) rfl rfl ?_
      refine am_s_iload_n rfl dc281_2.1.2.2 ?_
      refine am_s_ior dc281_2.2.1.1 ?_
      refine am_s_iastore dc281_2.2.1.2 rfl ((vi_t (vi_f q.2 c1).2.2 (Decidable.not_not.mp c2)).2.2.2.2.2.2.1) rfl ?_
      refine am_s_aload_n rfl dc281_2.2.2.1 ?_
      refine am_s_getR (r := 191) dc281_2.2.2.2 rfl rfl rfl (hp _ _ _ rfl) ?_
      refine am_s_iconst am_cc3 dc281_3.1.1.1 ?_
      refine am_s_iload_n rfl dc281_3.1.1.2 ?_
      refine am_s_imul dc281_3.1.2.1 ?_
      refine am_s_iconst am_cc2 dc281_3.1.2.2 ?_
      refine am_s_iadd dc281_3.2.1.1 ?_
      refine am_s_dup2 rfl rfl dc281_3.2.1.2 ?_
      refine am_x_iaload (x := (am_u (am_u I 191 (Int32.toNatClampNeg (3 * x2)) ((I 191 (Int32.toNatClampNeg (3 * x2))) ||| (I 167 (Int32.toNatClampNeg (8 + (3 * (I 167 (Int32.toNatClampNeg ((92 + (((4 * x1) + x3) * 11)) + 1))))))))) 191 (Int32.toNatClampNeg ((3 * x2) + 1)) (((am_u I 191 (Int32.toNatClampNeg (3 * x2)) ((I 191 (Int32.toNatClampNeg (3 * x2))) ||| (I 167 (Int32.toNatClampNeg (8 + (3 * (I 167 (Int32.toNatClampNeg ((92 + (((4 * x1) + x3) * 11)) + 1))))))))) 191 (Int32.toNatClampNeg ((3 * x2) + 1))) ||| (I 167 (Int32.toNatClampNeg ((8 + (3 * (I 167 (Int32.toNatClampNeg ((92 + (((4 * x1) + x3) * 11)) + 1))))) + 1))))) 191 (Int32.toNatClampNeg ((3 * x2) + 2))) dc281_3.2.2.1 rfl ((vi_t (vi_f q.2 c1).2.2 (Decidable.not_not.mp c2)).2.2.2.2.2.2.2.1) rfl rfl ?_
      refine am_s_iload rfl dc281_3.2.2.2 ?_
      refine am_s_ior dc281_4.1 ?_
      refine am_s_iastore dc281_4.2.1 rfl ((vi_t (vi_f q.2 c1).2.2 (Decidable.not_not.mp c2)).2.2.2.2.2.2.2.2.1) rfl ?_
      refine am_s_return dc281_4.2.2 rfl (am_bkV ?_)
      refine am_s_goto rfl dc282_9.2.1.1 ?_
      exact am_s_return dc282_17.1.1 rfl ((vi_t (vi_f q.2 c1).2.2 (Decidable.not_not.mp c2)).2.2.2.2.2.2.2.2.2)
-- laysBegins ()V
theorem v283_0 {sc : Option (Nat × (Nat → Int32))} {d k n : Nat} {P : am_O → Prop} {I : am_I} {J : am_J} {Pf : am_R} (hp : am_PF Pf) {l1 : Option Value} {l2 : Option Value} (q : (am_go sc d 283 (2, [some (.ref 163), some (.int 0), l2], [], (am_SH, I, J, Pf), k, n) P)) : am_go sc d 283 (0, [some (.ref 163), l1, l2], [], (am_SH, I, J, Pf), k, n) P := by
  refine am_s_iconst am_cc0 dc283_0.1.1.1 ?_
  refine am_s_istore_n (ls' := [some (.ref 163), some (.int 0), l2]) rfl rfl dc283_0.1.1.2 ?_
  exact q
theorem v283_2 {sc : Option (Nat × (Nat → Int32))} {d k n : Nat} {P : am_O → Prop} {I : am_I} {J : am_J} {Pf : am_R} (hp : am_PF Pf) {x1 : Int32} {l2 : Option Value} (q : (if 8 ≤ x1 then (am_go sc d 283 (47, [some (.ref 163), some (.int 0), l2], [], (am_SH, I, J, Pf), k, n) P) else (am_in x1 8 = true) ∧ (am_go sc d 283 (17, [some (.ref 163), some (.int x1), some (.int 0)], [], (am_SH, am_u I 190 (Int32.toNatClampNeg x1) 0, J, Pf), k, n) P))) : am_go sc d 283 (2, [some (.ref 163), some (.int x1), l2], [], (am_SH, I, J, Pf), k, n) P := by
  refine am_s_iload_n rfl dc283_0.1.2.1 ?_
  refine am_s_bipush am_cb8 dc283_0.1.2.2 ?_
  refine am_s_ic_ge dc283_0.2.1.1 rfl (fun c1 => ?_) (fun c1 => ?_)
  · refine am_s_iconst am_cc0 dc283_3.2.1.1 ?_
    refine am_s_istore_n (ls' := [some (.ref 163), some (.int 0), l2]) rfl rfl dc283_3.2.1.2 ?_
    exact (vi_t q c1)
  · refine am_s_aload_n rfl dc283_0.2.1.2 ?_
    refine am_s_getR (r := 190) dc283_0.2.2.1 rfl rfl rfl (hp _ _ _ rfl) ?_
    refine am_s_iload_n rfl dc283_0.2.2.2 ?_
    refine am_s_iconst am_cc0 dc283_1.1.1.1 ?_
    refine am_s_bastore dc283_1.1.1.2 rfl ((vi_f q c1).1) (by decide) rfl ?_
    refine am_s_iconst am_cc0 dc283_1.1.2.1 ?_
    refine am_s_istore_n (ls' := [some (.ref 163), some (.int x1), some (.int 0)]) rfl rfl dc283_1.1.2.2 ?_
    exact (vi_f q c1).2
theorem v283_17 {sc : Option (Nat × (Nat → Int32))} {d k n : Nat} {P : am_O → Prop} {I : am_I} {J : am_J} {Pf : am_R} (hp : am_PF Pf) {x1 : Int32} {x2 : Int32} (q : (if 3 ≤ x2 then (am_go sc d 283 (2, [some (.ref 163), some (.int (x1 + 1)), some (.int x2)], [], (am_SH, I, J, Pf), k, n) P) else (am_in ((3 * x1) + x2) 24 = true) ∧ (am_go sc d 283 (17, [some (.ref 163), some (.int x1), some (.int (x2 + 1))], [], (am_SH, am_u I 191 (Int32.toNatClampNeg ((3 * x1) + x2)) 0, J, Pf), k, n) P))) : am_go sc d 283 (17, [some (.ref 163), some (.int x1), some (.int x2)], [], (am_SH, I, J, Pf), k, n) P := by
  refine am_s_iload_n rfl dc283_1.2.1.1 ?_
  refine am_s_iconst am_cc3 dc283_1.2.1.2 ?_
  refine am_s_ic_ge dc283_1.2.2.1 rfl (fun c1 => ?_) (fun c1 => ?_)
  · refine am_s_iinc (ls' := [some (.ref 163), some (.int (x1 + 1)), some (.int x2)]) am_cc1 rfl rfl dc283_3.1.2.1 ?_
    refine am_s_goto rfl dc283_3.1.2.2 ?_
    exact (vi_t q c1)
  · refine am_s_aload_n rfl dc283_1.2.2.2 ?_
    refine am_s_getR (r := 191) dc283_2.1.1.1 rfl rfl rfl (hp _ _ _ rfl) ?_
    refine am_s_iconst am_cc3 dc283_2.1.1.2 ?_
    refine am_s_iload_n rfl dc283_2.1.2.1 ?_
    refine am_s_imul dc283_2.1.2.2 ?_
    refine am_s_iload_n rfl dc283_2.2.1.1 ?_
    refine am_s_iadd dc283_2.2.1.2 ?_
    refine am_s_iconst am_cc0 dc283_2.2.2.1 ?_
    refine am_s_iastore dc283_2.2.2.2 rfl ((vi_f q c1).1) rfl ?_
    refine am_s_iinc (ls' := [some (.ref 163), some (.int x1), some (.int (x2 + 1))]) am_cc1 rfl rfl dc283_3.1.1.1 ?_
    refine am_s_goto rfl dc283_3.1.1.2 ?_
    exact (vi_f q c1).2
theorem v283_47 {sc : Option (Nat × (Nat → Int32))} {d k n : Nat} {P : am_O → Prop} {I : am_I} {J : am_J} {Pf : am_R} (hp : am_PF Pf) {x1 : Int32} {l2 : Option Value} (q : (if 8 < x1 then (am_go sc d 283 (104, [some (.ref 163), some (.int 0), l2], [], (am_SH, I, J, Pf), k, n) P) else (am_go sc d 283 (55, [some (.ref 163), some (.int x1), some (.int 0)], [], (am_SH, I, J, Pf), k, n) P))) : am_go sc d 283 (47, [some (.ref 163), some (.int x1), l2], [], (am_SH, I, J, Pf), k, n) P := by
  refine am_s_iload_n rfl dc283_3.2.2.1 ?_
  refine am_s_bipush am_cb8 dc283_3.2.2.2 ?_
  refine am_s_ic_gt dc283_4.1.1.1 rfl (fun c1 => ?_) (fun c1 => ?_)
  · refine am_s_iconst am_cc0 dc283_7.2.1.2 ?_
    refine am_s_istore_n (ls' := [some (.ref 163), some (.int 0), l2]) rfl rfl dc283_7.2.2.1 ?_
    exact (vi_t q c1)
  · refine am_s_iconst am_cc0 dc283_4.1.1.2 ?_
    refine am_s_istore_n (ls' := [some (.ref 163), some (.int x1), some (.int 0)]) rfl rfl dc283_4.1.2.1 ?_
    exact (vi_f q c1)
theorem v283_55 {sc : Option (Nat × (Nat → Int32))} {d k n : Nat} {P : am_O → Prop} {I : am_I} {J : am_J} {Pf : am_R} (hp : am_PF Pf) {x1 : Int32} {x2 : Int32} (q : (if (I 167 1) ≤ x2 then (am_go sc d 283 (47, [some (.ref 163), some (.int (x1 + 1)), some (.int x2)], [], (am_SH, I, J, Pf), k, n) P) else (am_mth d 280 [.ref 163, .int x2] (am_SH, I, J, Pf) (am_af sc d 283 67 [some (.ref 163), some (.int x1), some (.int x2)] [.int x2, .ref 163] [] (am_SH, I, J, Pf) k n true P)))) : am_go sc d 283 (55, [some (.ref 163), some (.int x1), some (.int x2)], [], (am_SH, I, J, Pf), k, n) P := by
  refine am_s_iload_n rfl dc283_4.1.2.2 ?_
  refine am_s_aload_n rfl dc283_4.2.1.1 ?_
  refine am_s_getR (r := 167) dc283_4.2.1.2 rfl rfl rfl (hp _ _ _ rfl) ?_
  refine am_s_iconst am_cc1 dc283_4.2.2.1 ?_
  refine am_x_iaload (x := I 167 1) dc283_4.2.2.2 rfl (by decide +kernel) am_cN1 rfl ?_
  refine am_s_ic_ge dc283_5.1.1.1 rfl (fun c1 => ?_) (fun c1 => ?_)
  · refine am_s_iinc (ls' := [some (.ref 163), some (.int (x1 + 1)), some (.int x2)]) am_cc1 rfl rfl dc283_7.1.2.2 ?_
    refine am_s_goto rfl dc283_7.2.1.1 ?_
    exact (vi_t q c1)
  · refine am_s_aload_n rfl dc283_5.1.1.2 ?_
    refine am_s_iload_n rfl dc283_5.1.2.1 ?_
    exact am_s_virtual true dc283_5.1.2.2 rfl (by decide) rfl rfl rfl ((vi_f q c1))
theorem v283_104 {sc : Option (Nat × (Nat → Int32))} {d k n : Nat} {P : am_O → Prop} {I : am_I} {J : am_J} {Pf : am_R} (hp : am_PF Pf) {x1 : Int32} {l2 : Option Value} (q : (if (I 167 2) ≤ x1 then (am_go sc (d + 1) 283 (175, [some (.ref 163), some (.int 0), l2], [], (am_SH, I, J, Pf), k, n) P) else (am_in ((972 + (5 * x1)) + 2) 1040 = true) ∧ (if 32 ≤ ((I 167 (Int32.toNatClampNeg ((972 + (5 * x1)) + 2))) - 32) then (if 64 ≤ ((I 167 (Int32.toNatClampNeg ((972 + (5 * x1)) + 2))) - 32) then (am_in (972 + (5 * x1)) 1040 = true) ∧ (am_in (3 * (I 167 (Int32.toNatClampNeg (972 + (5 * x1))))) 24 = true) ∧ (am_in (3 * (I 167 (Int32.toNatClampNeg (972 + (5 * x1))))) 24 = true) ∧ (am_in ((3 * (I 167 (Int32.toNatClampNeg (972 + (5 * x1))))) + 1) 24 = true) ∧ (am_in ((3 * (I 167 (Int32.toNatClampNeg (972 + (5 * x1))))) + 1) 24 = true) ∧ (am_in ((3 * (I 167 (Int32.toNatClampNeg (972 + (5 * x1))))) + 2) 24 = true) ∧ (am_in ((3 * (I 167 (Int32.toNatClampNeg (972 + (5 * x1))))) + 2) 24 = true) ∧ (am_go sc (d + 1) 283 (104, [some (.ref 163), some (.int (x1 + 1)), l2], [], (am_SH, am_u (am_u (am_u (am_u (am_u (am_u (am_u I 163 17 0) 163 18 0) 163 19 0) 163 19 ((0 : Int32) ||| ((1 : Int32) <<< ((((I 167 (Int32.toNatClampNeg ((972 + (5 * x1)) + 2))) - 32) - 64) &&& 31)))) 191 (Int32.toNatClampNeg (3 * (I 167 (Int32.toNatClampNeg (972 + (5 * x1)))))) ((I 191 (Int32.toNatClampNeg (3 * (I 167 (Int32.toNatClampNeg (972 + (5 * x1))))))) ||| 0)) 191 (Int32.toNatClampNeg ((3 * (I 167 (Int32.toNatClampNeg (972 + (5 * x1))))) + 1)) (((am_u (am_u (am_u (am_u (am_u I 163 17 0) 163 18 0) 163 19 0) 163 19 ((0 : Int32) ||| ((1 : Int32) <<< ((((I 167 (Int32.toNatClampNeg ((972 + (5 * x1)) + 2))) - 32) - 64) &&& 31)))) 191 (Int32.toNatClampNeg (3 * (I 167 (Int32.toNatClampNeg (972 + (5 * x1)))))) ((I 191 (Int32.toNatClampNeg (3 * (I 167 (Int32.toNatClampNeg (972 + (5 * x1))))))) ||| 0)) 191 (Int32.toNatClampNeg ((3 * (I 167 (Int32.toNatClampNeg (972 + (5 * x1))))) + 1))) ||| 0)) 191 (Int32.toNatClampNeg ((3 * (I 167 (Int32.toNatClampNeg (972 + (5 * x1))))) + 2)) (((am_u (am_u (am_u (am_u (am_u (am_u I 163 17 0) 163 18 0) 163 19 0) 163 19 ((0 : Int32) ||| ((1 : Int32) <<< ((((I 167 (Int32.toNatClampNeg ((972 + (5 * x1)) + 2))) - 32) - 64) &&& 31)))) 191 (Int32.toNatClampNeg (3 * (I 167 (Int32.toNatClampNeg (972 + (5 * x1)))))) ((I 191 (Int32.toNatClampNeg (3 * (I 167 (Int32.toNatClampNeg (972 + (5 * x1))))))) ||| 0)) 191 (Int32.toNatClampNeg ((3 * (I 167 (Int32.toNatClampNeg (972 + (5 * x1))))) + 1)) (((am_u (am_u (am_u (am_u (am_u I 163 17 0) 163 18 0) 163 19 0) 163 19 ((0 : Int32) ||| ((1 : Int32) <<< ((((I 167 (Int32.toNatClampNeg ((972 + (5 * x1)) + 2))) - 32) - 64) &&& 31)))) 191 (Int32.toNatClampNeg (3 * (I 167 (Int32.toNatClampNeg (972 + (5 * x1)))))) ((I 191 (Int32.toNatClampNeg (3 * (I 167 (Int32.toNatClampNeg (972 + (5 * x1))))))) ||| 0)) 191 (Int32.toNatClampNeg ((3 * (I 167 (Int32.toNatClampNeg (972 + (5 * x1))))) + 1))) ||| 0)) 191 (Int32.toNatClampNeg ((3 * (I 167 (Int32.toNatClampNeg (972 + (5 * x1))))) + 2))) ||| ((0 : Int32) ||| ((1 : Int32) <<< ((((I 167 (Int32.toNatClampNeg ((972 + (5 * x1)) + 2))) - 32) - 64) &&& 31)))), J, Pf), k, n) P) else (am_in (972 + (5 * x1)) 1040 = true) ∧ (am_in (3 * (I 167 (Int32.toNatClampNeg (972 + (5 * x1))))) 24 = true) ∧ (am_in (3 * (I 167 (Int32.toNatClampNeg (972 + (5 * x1))))) 24 = true) ∧ (am_in ((3 * (I 167 (Int32.toNatClampNeg (972 + (5 * x1))))) + 1) 24 = true) ∧ (am_in ((3 * (I 167 (Int32.toNatClampNeg (972 + (5 * x1))))) + 1) 24 = true) ∧ (am_in ((3 * (I 167 (Int32.toNatClampNeg (972 + (5 * x1))))) + 2) 24 = true) ∧ (am_in ((3 * (I 167 (Int32.toNatClampNeg (972 + (5 * x1))))) + 2) 24 = true) ∧ (am_go sc (d + 1) 283 (104, [some (.ref 163), some (.int (x1 + 1)), l2], [], (am_SH, am_u (am_u (am_u (am_u (am_u (am_u (am_u I 163 17 0) 163 18 0) 163 19 0) 163 18 ((0 : Int32) ||| ((1 : Int32) <<< ((((I 167 (Int32.toNatClampNeg ((972 + (5 * x1)) + 2))) - 32) - 32) &&& 31)))) 191 (Int32.toNatClampNeg (3 * (I 167 (Int32.toNatClampNeg (972 + (5 * x1)))))) ((I 191 (Int32.toNatClampNeg (3 * (I 167 (Int32.toNatClampNeg (972 + (5 * x1))))))) ||| 0)) 191 (Int32.toNatClampNeg ((3 * (I 167 (Int32.toNatClampNeg (972 + (5 * x1))))) + 1)) (((am_u (am_u (am_u (am_u (am_u I 163 17 0) 163 18 0) 163 19 0) 163 18 ((0 : Int32) ||| ((1 : Int32) <<< ((((I 167 (Int32.toNatClampNeg ((972 + (5 * x1)) + 2))) - 32) - 32) &&& 31)))) 191 (Int32.toNatClampNeg (3 * (I 167 (Int32.toNatClampNeg (972 + (5 * x1)))))) ((I 191 (Int32.toNatClampNeg (3 * (I 167 (Int32.toNatClampNeg (972 + (5 * x1))))))) ||| 0)) 191 (Int32.toNatClampNeg ((3 * (I 167 (Int32.toNatClampNeg (972 + (5 * x1))))) + 1))) ||| ((0 : Int32) ||| ((1 : Int32) <<< ((((I 167 (Int32.toNatClampNeg ((972 + (5 * x1)) + 2))) - 32) - 32) &&& 31))))) 191 (Int32.toNatClampNeg ((3 * (I 167 (Int32.toNatClampNeg (972 + (5 * x1))))) + 2)) (((am_u (am_u (am_u (am_u (am_u (am_u I 163 17 0) 163 18 0) 163 19 0) 163 18 ((0 : Int32) ||| ((1 : Int32) <<< ((((I 167 (Int32.toNatClampNeg ((972 + (5 * x1)) + 2))) - 32) - 32) &&& 31)))) 191 (Int32.toNatClampNeg (3 * (I 167 (Int32.toNatClampNeg (972 + (5 * x1)))))) ((I 191 (Int32.toNatClampNeg (3 * (I 167 (Int32.toNatClampNeg (972 + (5 * x1))))))) ||| 0)) 191 (Int32.toNatClampNeg ((3 * (I 167 (Int32.toNatClampNeg (972 + (5 * x1))))) + 1)) (((am_u (am_u (am_u (am_u (am_u I 163 17 0) 163 18 0) 163 19 0) 163 18 ((0 : Int32) ||| ((1 : Int32) <<< ((((I 167 (Int32.toNatClampNeg ((972 + (5 * x1)) + 2))) - 32) - 32) &&& 31)))) 191 (Int32.toNatClampNeg (3 * (I 167 (Int32.toNatClampNeg (972 + (5 * x1)))))) ((I 191 (Int32.toNatClampNeg (3 * (I 167 (Int32.toNatClampNeg (972 + (5 * x1))))))) ||| 0)) 191 (Int32.toNatClampNeg ((3 * (I 167 (Int32.toNatClampNeg (972 + (5 * x1))))) + 1))) ||| ((0 : Int32) ||| ((1 : Int32) <<< ((((I 167 (Int32.toNatClampNeg ((972 + (5 * x1)) + 2))) - 32) - 32) &&& 31))))) 191 (Int32.toNatClampNeg ((3 * (I 167 (Int32.toNatClampNeg (972 + (5 * x1))))) + 2))) ||| 0), J, Pf), k, n) P)) else (am_in (972 + (5 * x1)) 1040 = true) ∧ (am_in (3 * (I 167 (Int32.toNatClampNeg (972 + (5 * x1))))) 24 = true) ∧ (am_in (3 * (I 167 (Int32.toNatClampNeg (972 + (5 * x1))))) 24 = true) ∧ (am_in ((3 * (I 167 (Int32.toNatClampNeg (972 + (5 * x1))))) + 1) 24 = true) ∧ (am_in ((3 * (I 167 (Int32.toNatClampNeg (972 + (5 * x1))))) + 1) 24 = true) ∧ (am_in ((3 * (I 167 (Int32.toNatClampNeg (972 + (5 * x1))))) + 2) 24 = true) ∧ (am_in ((3 * (I 167 (Int32.toNatClampNeg (972 + (5 * x1))))) + 2) 24 = true) ∧ (am_go sc (d + 1) 283 (104, [some (.ref 163), some (.int (x1 + 1)), l2], [], (am_SH, am_u (am_u (am_u (am_u (am_u (am_u (am_u I 163 17 0) 163 18 0) 163 19 0) 163 17 ((0 : Int32) ||| ((1 : Int32) <<< (((I 167 (Int32.toNatClampNeg ((972 + (5 * x1)) + 2))) - 32) &&& 31)))) 191 (Int32.toNatClampNeg (3 * (I 167 (Int32.toNatClampNeg (972 + (5 * x1)))))) ((I 191 (Int32.toNatClampNeg (3 * (I 167 (Int32.toNatClampNeg (972 + (5 * x1))))))) ||| ((0 : Int32) ||| ((1 : Int32) <<< (((I 167 (Int32.toNatClampNeg ((972 + (5 * x1)) + 2))) - 32) &&& 31))))) 191 (Int32.toNatClampNeg ((3 * (I 167 (Int32.toNatClampNeg (972 + (5 * x1))))) + 1)) (((am_u (am_u (am_u (am_u (am_u I 163 17 0) 163 18 0) 163 19 0) 163 17 ((0 : Int32) ||| ((1 : Int32) <<< (((I 167 (Int32.toNatClampNeg ((972 + (5 * x1)) + 2))) - 32) &&& 31)))) 191 (Int32.toNatClampNeg (3 * (I 167 (Int32.toNatClampNeg (972 + (5 * x1)))))) ((I 191 (Int32.toNatClampNeg (3 * (I 167 (Int32.toNatClampNeg (972 + (5 * x1))))))) ||| ((0 : Int32) ||| ((1 : Int32) <<< (((I 167 (Int32.toNatClampNeg ((972 + (5 * x1)) + 2))) - 32) &&& 31))))) 191 (Int32.toNatClampNeg ((3 * (I 167 (Int32.toNatClampNeg (972 + (5 * x1))))) + 1))) ||| 0)) 191 (Int32.toNatClampNeg ((3 * (I 167 (Int32.toNatClampNeg (972 + (5 * x1))))) + 2)) (((am_u (am_u (am_u (am_u (am_u (am_u I 163 17 0) 163 18 0) 163 19 0) 163 17 ((0 : Int32) ||| ((1 : Int32) <<< (((I 167 (Int32.toNatClampNeg ((972 + (5 * x1)) + 2))) - 32) &&& 31)))) 191 (Int32.toNatClampNeg (3 * (I 167 (Int32.toNatClampNeg (972 + (5 * x1)))))) ((I 191 (Int32.toNatClampNeg (3 * (I 167 (Int32.toNatClampNeg (972 + (5 * x1))))))) ||| ((0 : Int32) ||| ((1 : Int32) <<< (((I 167 (Int32.toNatClampNeg ((972 + (5 * x1)) + 2))) - 32) &&& 31))))) 191 (Int32.toNatClampNeg ((3 * (I 167 (Int32.toNatClampNeg (972 + (5 * x1))))) + 1)) (((am_u (am_u (am_u (am_u (am_u I 163 17 0) 163 18 0) 163 19 0) 163 17 ((0 : Int32) ||| ((1 : Int32) <<< (((I 167 (Int32.toNatClampNeg ((972 + (5 * x1)) + 2))) - 32) &&& 31)))) 191 (Int32.toNatClampNeg (3 * (I 167 (Int32.toNatClampNeg (972 + (5 * x1)))))) ((I 191 (Int32.toNatClampNeg (3 * (I 167 (Int32.toNatClampNeg (972 + (5 * x1))))))) ||| ((0 : Int32) ||| ((1 : Int32) <<< (((I 167 (Int32.toNatClampNeg ((972 + (5 * x1)) + 2))) - 32) &&& 31))))) 191 (Int32.toNatClampNeg ((3 * (I 167 (Int32.toNatClampNeg (972 + (5 * x1))))) + 1))) ||| 0)) 191 (Int32.toNatClampNeg ((3 * (I 167 (Int32.toNatClampNeg (972 + (5 * x1))))) + 2))) ||| 0), J, Pf), k, n) P)))) : am_go sc (d + 1) 283 (104, [some (.ref 163), some (.int x1), l2], [], (am_SH, I, J, Pf), k, n) P := by
  refine am_s_iload_n rfl dc283_7.2.2.2 ?_
  refine am_s_aload_n rfl dc283_8.1.1.1 ?_
  refine am_s_getR (r := 167) dc283_8.1.1.2 rfl rfl rfl (hp _ _ _ rfl) ?_
  refine am_s_iconst am_cc2 dc283_8.1.2.1 ?_
  refine am_x_iaload (x := I 167 2) dc283_8.1.2.2 rfl (by decide +kernel) am_cN2 rfl ?_
  refine am_s_ic_ge dc283_8.2.1.1 rfl (fun c1 => ?_) (fun c1 => ?_)
  · refine am_s_iconst am_cc0 dc283_13.1.1.1 ?_
    refine am_s_istore_n (ls' := [some (.ref 163), some (.int 0), l2]) rfl rfl dc283_13.1.1.2 ?_
    exact (vi_t q c1)
  · refine am_s_aload_n rfl dc283_8.2.1.2 ?_
    refine am_s_iconst am_cc0 dc283_8.2.2.1 ?_
    refine am_s_iconst am_cc0 dc283_8.2.2.2 ?_
    refine am_s_iconst am_cc0 dc283_9.1.1.1 ?_
    refine am_s_virtual true dc283_9.1.1.2 rfl (by decide) rfl rfl rfl (am_mth_of rfl rfl ?_)
    refine am_s_aload_n rfl dc215_0.1.1.1 ?_
    refine am_s_iload_n rfl dc215_0.1.1.2 ?_
    refine am_s_putI dc215_0.1.2.1 rfl rfl rfl rfl ?_
    refine am_s_aload_n rfl dc215_0.1.2.2 ?_
    refine am_s_iload_n rfl dc215_0.2.1.1 ?_
    refine am_s_putI dc215_0.2.1.2 rfl rfl rfl rfl ?_
    refine am_s_aload_n rfl dc215_0.2.2.1 ?_
    refine am_s_iload_n rfl dc215_0.2.2.2 ?_
    refine am_s_putI dc215_1.1 rfl rfl rfl rfl ?_
    refine am_s_return dc215_1.2 rfl (am_bkV ?_)
    refine am_s_aload_n rfl dc283_9.1.2.1 ?_
    refine am_s_aload_n rfl dc283_9.1.2.2 ?_
    refine am_s_getR (r := 167) dc283_9.2.1.1 rfl rfl rfl (hp _ _ _ rfl) ?_
    refine am_s_sipush am_cs972 dc283_9.2.1.2 ?_
    refine am_s_iconst am_cc5 dc283_9.2.2.1 ?_
    refine am_s_iload_n rfl dc283_9.2.2.2 ?_
    refine am_s_imul dc283_10.1.1.1 ?_
    refine am_s_iadd dc283_10.1.1.2 ?_
    refine am_s_iconst am_cc2 dc283_10.1.2.1 ?_
    refine am_s_iadd dc283_10.1.2.2 ?_
    refine am_x_iaload (x := I 167 (Int32.toNatClampNeg ((972 + (5 * x1)) + 2))) dc283_10.2.1.1 rfl ((vi_f q c1).1) rfl rfl ?_
    refine am_s_virtual true dc283_10.2.1.2 rfl (by decide) rfl rfl rfl (am_mth_of rfl rfl ?_)
    refine am_s_iload_n rfl dc216_0.1.1.1 ?_
    refine am_s_bipush am_cb32 dc216_0.1.1.2 ?_
    refine am_s_isub dc216_0.1.2.1 ?_
    refine am_s_istore_n (ls' := [some (.ref 163), some (.int (I 167 (Int32.toNatClampNeg ((972 + (5 * x1)) + 2)))), some (.int ((I 167 (Int32.toNatClampNeg ((972 + (5 * x1)) + 2))) - 32))]) rfl rfl dc216_0.1.2.2 ?_
    refine am_s_iload_n rfl dc216_0.2.1.1 ?_
    refine am_s_bipush am_cb32 dc216_0.2.1.2 ?_
    refine am_s_ic_ge dc216_0.2.2.1 rfl (fun c2 => ?_) (fun c2 => ?_)
    · refine am_s_iload_n rfl dc216_2.1.1.1 ?_
      refine am_s_bipush am_cb64 dc216_2.1.1.2 ?_
      refine am_s_ic_ge dc216_2.1.2.1 rfl (fun c3 => ?_) (fun c3 => ?_)
      · refine am_s_aload_n rfl dc216_3.2.2.1 ?_
        refine am_s_dup rfl dc216_3.2.2.2 ?_
        refine am_x_getI (x := 0) dc216_4.1.1.1 rfl rfl (Or.inl rfl) rfl ?_
        refine am_s_iconst am_cc1 dc216_4.1.1.2 ?_
        refine am_s_iload_n rfl dc216_4.1.2.1 ?_
        refine am_s_bipush am_cb64 dc216_4.1.2.2 ?_
        refine am_s_isub dc216_4.2.1.1 ?_
        refine am_s_ishl dc216_4.2.1.2 ?_
        refine am_s_ior dc216_4.2.2.1 ?_
        refine am_s_putI dc216_4.2.2.2 rfl rfl rfl rfl ?_
        refine am_s_return dc216_5 rfl (am_bkV ?_)
        refine am_s_aload_n rfl dc283_10.2.2.1 ?_
        refine am_s_aload_n rfl dc283_10.2.2.2 ?_
        refine am_s_getR (r := 167) dc283_11.1.1.1 rfl rfl rfl (hp _ _ _ rfl) ?_
        refine am_s_sipush am_cs972 dc283_11.1.1.2 ?_
        refine am_s_iconst am_cc5 dc283_11.1.2.1 ?_
        refine am_s_iload_n rfl dc283_11.1.2.2 ?_
        refine am_s_imul dc283_11.2.1.1 ?_
        refine am_s_iadd dc283_11.2.1.2 ?_
        refine am_x_iaload (x := I 167 (Int32.toNatClampNeg (972 + (5 * x1)))) dc283_11.2.2.1 rfl ((vi_t (vi_t (vi_f q c1).2 c2) c3).1) rfl rfl ?_
        refine am_s_aload_n rfl dc283_11.2.2.2 ?_
        refine am_x_getI (x := 0) dc283_12.1.1.1 rfl rfl (Or.inl rfl) rfl ?_
        refine am_s_aload_n rfl dc283_12.1.1.2 ?_
        refine am_x_getI (x := 0) dc283_12.1.2.1 rfl rfl (Or.inl rfl) rfl ?_
        refine am_s_aload_n rfl dc283_12.1.2.2 ?_
        refine am_x_getI (x := (0 : Int32) ||| ((1 : Int32) <<< ((((I 167 (Int32.toNatClampNeg ((972 + (5 * x1)) + 2))) - 32) - 64) &&& 31))) dc283_12.2.1.1 rfl rfl (Or.inl rfl) rfl ?_
        refine am_s_virtual true dc283_12.2.1.2 rfl (by decide) rfl rfl rfl (am_mth_of rfl rfl ?_)
        refine am_s_aload_n rfl dc281_0.1.1.1 ?_
        refine am_s_getR (r := 191) dc281_0.1.1.2 rfl rfl rfl (hp _ _ _ rfl) ?_
        refine am_s_iconst am_cc3 dc281_0.1.2.1 ?_
        refine am_s_iload_n rfl dc281_0.1.2.2 ?_
        refine am_s_imul dc281_0.2.1.1 ?_
        refine am_s_dup2 rfl rfl dc281_0.2.1.2 ?_
        refine am_x_iaload (x := I 191 (Int32.toNatClampNeg (3 * (I 167 (Int32.toNatClampNeg (972 + (5 * x1))))))) dc281_0.2.2.1 rfl ((vi_t (vi_t (vi_f q c1).2 c2) c3).2.1) rfl rfl ?_
        refine am_s_iload_n rfl dc281_0.2.2.2 ?_
        refine am_s_ior dc281_1.1.1.1 ?_
        refine am_s_iastore dc281_1.1.1.2 rfl ((vi_t (vi_t (vi_f q c1).2 c2) c3).2.2.1) rfl ?_
        refine am_s_aload_n rfl dc281_1.1.2.1 ?_
        refine am_s_getR (r := 191) dc281_1.1.2.2 rfl rfl rfl (hp _ _ _ rfl) ?_
        refine am_s_iconst am_cc3 dc281_1.2.1.1 ?_
        refine am_s_iload_n rfl dc281_1.2.1.2 ?_
        refine am_s_imul dc281_1.2.2.1 ?_
        refine am_s_iconst am_cc1 dc281_1.2.2.2 ?_
        refine am_s_iadd dc281_2.1.1.1 ?_
        refine am_s_dup2 rfl rfl dc281_2.1.1.2 ?_
        refine am_x_iaload (x := (am_u (am_u (am_u (am_u (am_u I 163 17 0) 163 18 0) 163 19 0) 163 19 ((0 : Int32) ||| ((1 : Int32) <<< ((((I 167 (Int32.toNatClampNeg ((972 + (5 * x1)) + 2))) - 32) - 64) &&& 31)))) 191 (Int32.toNatClampNeg (3 * (I 167 (Int32.toNatClampNeg (972 + (5 * x1)))))) ((I 191 (Int32.toNatClampNeg (3 * (I 167 (Int32.toNatClampNeg (972 + (5 * x1))))))) ||| 0)) 191 (Int32.toNatClampNeg ((3 * (I 167 (Int32.toNatClampNeg (972 + (5 * x1))))) + 1))) dc281_2.1.2.1 rfl ((vi_t (vi_t (vi_f q c1).2 c2) c3).2.2.2.1) rfl rfl ?_
        refine am_s_iload_n rfl dc281_2.1.2.2 ?_
        refine am_s_ior dc281_2.2.1.1 ?_
        refine am_s_iastore dc281_2.2.1.2 rfl ((vi_t (vi_t (vi_f q c1).2 c2) c3).2.2.2.2.1) rfl ?_
        refine am_s_aload_n rfl dc281_2.2.2.1 ?_
        refine am_s_getR (r := 191) dc281_2.2.2.2 rfl rfl rfl (hp _ _ _ rfl) ?_
        refine am_s_iconst am_cc3 dc281_3.1.1.1 ?_
        refine am_s_iload_n rfl dc281_3.1.1.2 ?_
        refine am_s_imul dc281_3.1.2.1 ?_
        refine am_s_iconst am_cc2 dc281_3.1.2.2 ?_
        refine am_s_iadd dc281_3.2.1.1 ?_
        refine am_s_dup2 rfl rfl dc281_3.2.1.2 ?_
        refine am_x_iaload (x := (am_u (am_u (am_u (am_u (am_u (am_u I 163 17 0) 163 18 0) 163 19 0) 163 19 ((0 : Int32) ||| ((1 : Int32) <<< ((((I 167 (Int32.toNatClampNeg ((972 + (5 * x1)) + 2))) - 32) - 64) &&& 31)))) 191 (Int32.toNatClampNeg (3 * (I 167 (Int32.toNatClampNeg (972 + (5 * x1)))))) ((I 191 (Int32.toNatClampNeg (3 * (I 167 (Int32.toNatClampNeg (972 + (5 * x1))))))) ||| 0)) 191 (Int32.toNatClampNeg ((3 * (I 167 (Int32.toNatClampNeg (972 + (5 * x1))))) + 1)) (((am_u (am_u (am_u (am_u (am_u I 163 17 0) 163 18 0) 163 19 0) 163 19 ((0 : Int32) ||| ((1 : Int32) <<< ((((I 167 (Int32.toNatClampNeg ((972 + (5 * x1)) + 2))) - 32) - 64) &&& 31)))) 191 (Int32.toNatClampNeg (3 * (I 167 (Int32.toNatClampNeg (972 + (5 * x1)))))) ((I 191 (Int32.toNatClampNeg (3 * (I 167 (Int32.toNatClampNeg (972 + (5 * x1))))))) ||| 0)) 191 (Int32.toNatClampNeg ((3 * (I 167 (Int32.toNatClampNeg (972 + (5 * x1))))) + 1))) ||| 0)) 191 (Int32.toNatClampNeg ((3 * (I 167 (Int32.toNatClampNeg (972 + (5 * x1))))) + 2))) dc281_3.2.2.1 rfl ((vi_t (vi_t (vi_f q c1).2 c2) c3).2.2.2.2.2.1) rfl rfl ?_
        refine am_s_iload rfl dc281_3.2.2.2 ?_
        refine am_s_ior dc281_4.1 ?_
        refine am_s_iastore dc281_4.2.1 rfl ((vi_t (vi_t (vi_f q c1).2 c2) c3).2.2.2.2.2.2.1) rfl ?_
        refine am_s_return dc281_4.2.2 rfl (am_bkV ?_)
        refine am_s_iinc (ls' := [some (.ref 163), some (.int (x1 + 1)), l2]) am_cc1 rfl rfl dc283_12.2.2.1 ?_
        refine am_s_goto rfl dc283_12.2.2.2 ?_
        exact (vi_t (vi_t (vi_f q c1).2 c2) c3).2.2.2.2.2.2.2
      · refine am_s_aload_n rfl dc216_2.1.2.2 ?_
        refine am_s_dup rfl dc216_2.2.1.1 ?_
        refine am_x_getI (x := 0) dc216_2.2.1.2 rfl rfl (Or.inl rfl) rfl ?_
        refine am_s_iconst am_cc1 dc216_2.2.2.1 ?_
        refine am_s_iload_n rfl dc216_2.2.2.2 ?_
        refine am_s_bipush am_cb32 dc216_3.1.1.1 ?_
        refine am_s_isub dc216_3.1.1.2 ?_
        refine am_s_ishl dc216_3.1.2.1 ?_
        refine am_s_ior dc216_3.1.2.2 ?_
        refine am_s_putI dc216_3.2.1.1 rfl rfl rfl rfl ?_
        refine am_s_goto rfl dc216_3.2.1.2 ?_
        refine am_s_return dc216_5 rfl (am_bkV ?_)
        refine am_s_aload_n rfl dc283_10.2.2.1 ?_
        refine am_s_aload_n rfl dc283_10.2.2.2 ?_
        refine am_s_getR (r := 167) dc283_11.1.1.1 rfl rfl rfl (hp _ _ _ rfl) ?_
        refine am_s_sipush am_cs972 dc283_11.1.1.2 ?_
        refine am_s_iconst am_cc5 dc283_11.1.2.1 ?_
        refine am_s_iload_n rfl dc283_11.1.2.2 ?_
        refine am_s_imul dc283_11.2.1.1 ?_
        refine am_s_iadd dc283_11.2.1.2 ?_
        refine am_x_iaload (x := I 167 (Int32.toNatClampNeg (972 + (5 * x1)))) dc283_11.2.2.1 rfl ((vi_f (vi_t (vi_f q c1).2 c2) c3).1) rfl rfl ?_
        refine am_s_aload_n rfl dc283_11.2.2.2 ?_
        refine am_x_getI (x := 0) dc283_12.1.1.1 rfl rfl (Or.inl rfl) rfl ?_
        refine am_s_aload_n rfl dc283_12.1.1.2 ?_
        refine am_x_getI (x := (0 : Int32) ||| ((1 : Int32) <<< ((((I 167 (Int32.toNatClampNeg ((972 + (5 * x1)) + 2))) - 32) - 32) &&& 31))) dc283_12.1.2.1 rfl rfl (Or.inl rfl) rfl ?_
        refine am_s_aload_n rfl dc283_12.1.2.2 ?_
        refine am_x_getI (x := 0) dc283_12.2.1.1 rfl rfl (Or.inl rfl) rfl ?_
        refine am_s_virtual true dc283_12.2.1.2 rfl (by decide) rfl rfl rfl (am_mth_of rfl rfl ?_)
        refine am_s_aload_n rfl dc281_0.1.1.1 ?_
        refine am_s_getR (r := 191) dc281_0.1.1.2 rfl rfl rfl (hp _ _ _ rfl) ?_
        refine am_s_iconst am_cc3 dc281_0.1.2.1 ?_
        refine am_s_iload_n rfl dc281_0.1.2.2 ?_
        refine am_s_imul dc281_0.2.1.1 ?_
        refine am_s_dup2 rfl rfl dc281_0.2.1.2 ?_
        refine am_x_iaload (x := I 191 (Int32.toNatClampNeg (3 * (I 167 (Int32.toNatClampNeg (972 + (5 * x1))))))) dc281_0.2.2.1 rfl ((vi_f (vi_t (vi_f q c1).2 c2) c3).2.1) rfl rfl ?_
        refine am_s_iload_n rfl dc281_0.2.2.2 ?_
        refine am_s_ior dc281_1.1.1.1 ?_
        refine am_s_iastore dc281_1.1.1.2 rfl ((vi_f (vi_t (vi_f q c1).2 c2) c3).2.2.1) rfl ?_
        refine am_s_aload_n rfl dc281_1.1.2.1 ?_
        refine am_s_getR (r := 191) dc281_1.1.2.2 rfl rfl rfl (hp _ _ _ rfl) ?_
        refine am_s_iconst am_cc3 dc281_1.2.1.1 ?_
        refine am_s_iload_n rfl dc281_1.2.1.2 ?_
        refine am_s_imul dc281_1.2.2.1 ?_
        refine am_s_iconst am_cc1 dc281_1.2.2.2 ?_
        refine am_s_iadd dc281_2.1.1.1 ?_
        refine am_s_dup2 rfl rfl dc281_2.1.1.2 ?_
        refine am_x_iaload (x := (am_u (am_u (am_u (am_u (am_u I 163 17 0) 163 18 0) 163 19 0) 163 18 ((0 : Int32) ||| ((1 : Int32) <<< ((((I 167 (Int32.toNatClampNeg ((972 + (5 * x1)) + 2))) - 32) - 32) &&& 31)))) 191 (Int32.toNatClampNeg (3 * (I 167 (Int32.toNatClampNeg (972 + (5 * x1)))))) ((I 191 (Int32.toNatClampNeg (3 * (I 167 (Int32.toNatClampNeg (972 + (5 * x1))))))) ||| 0)) 191 (Int32.toNatClampNeg ((3 * (I 167 (Int32.toNatClampNeg (972 + (5 * x1))))) + 1))) dc281_2.1.2.1 rfl ((vi_f (vi_t (vi_f q c1).2 c2) c3).2.2.2.1) rfl rfl ?_
        refine am_s_iload_n rfl dc281_2.1.2.2 ?_
        refine am_s_ior dc281_2.2.1.1 ?_
        refine am_s_iastore dc281_2.2.1.2 rfl ((vi_f (vi_t (vi_f q c1).2 c2) c3).2.2.2.2.1) rfl ?_
        refine am_s_aload_n rfl dc281_2.2.2.1 ?_
        refine am_s_getR (r := 191) dc281_2.2.2.2 rfl rfl rfl (hp _ _ _ rfl) ?_
        refine am_s_iconst am_cc3 dc281_3.1.1.1 ?_
        refine am_s_iload_n rfl dc281_3.1.1.2 ?_
        refine am_s_imul dc281_3.1.2.1 ?_
        refine am_s_iconst am_cc2 dc281_3.1.2.2 ?_
        refine am_s_iadd dc281_3.2.1.1 ?_
        refine am_s_dup2 rfl rfl dc281_3.2.1.2 ?_
        refine am_x_iaload (x := (am_u (am_u (am_u (am_u (am_u (am_u I 163 17 0) 163 18 0) 163 19 0) 163 18 ((0 : Int32) ||| ((1 : Int32) <<< ((((I 167 (Int32.toNatClampNeg ((972 + (5 * x1)) + 2))) - 32) - 32) &&& 31)))) 191 (Int32.toNatClampNeg (3 * (I 167 (Int32.toNatClampNeg (972 + (5 * x1)))))) ((I 191 (Int32.toNatClampNeg (3 * (I 167 (Int32.toNatClampNeg (972 + (5 * x1))))))) ||| 0)) 191 (Int32.toNatClampNeg ((3 * (I 167 (Int32.toNatClampNeg (972 + (5 * x1))))) + 1)) (((am_u (am_u (am_u (am_u (am_u I 163 17 0) 163 18 0) 163 19 0) 163 18 ((0 : Int32) ||| ((1 : Int32) <<< ((((I 167 (Int32.toNatClampNeg ((972 + (5 * x1)) + 2))) - 32) - 32) &&& 31)))) 191 (Int32.toNatClampNeg (3 * (I 167 (Int32.toNatClampNeg (972 + (5 * x1)))))) ((I 191 (Int32.toNatClampNeg (3 * (I 167 (Int32.toNatClampNeg (972 + (5 * x1))))))) ||| 0)) 191 (Int32.toNatClampNeg ((3 * (I 167 (Int32.toNatClampNeg (972 + (5 * x1))))) + 1))) ||| ((0 : Int32) ||| ((1 : Int32) <<< ((((I 167 (Int32.toNatClampNeg ((972 + (5 * x1)) + 2))) - 32) - 32) &&& 31))))) 191 (Int32.toNatClampNeg ((3 * (I 167 (Int32.toNatClampNeg (972 + (5 * x1))))) + 2))) dc281_3.2.2.1 rfl ((vi_f (vi_t (vi_f q c1).2 c2) c3).2.2.2.2.2.1) rfl rfl ?_
        refine am_s_iload rfl dc281_3.2.2.2 ?_
        refine am_s_ior dc281_4.1 ?_
        refine am_s_iastore dc281_4.2.1 rfl ((vi_f (vi_t (vi_f q c1).2 c2) c3).2.2.2.2.2.2.1) rfl ?_
        refine am_s_return dc281_4.2.2 rfl (am_bkV ?_)
        refine am_s_iinc (ls' := [some (.ref 163), some (.int (x1 + 1)), l2]) am_cc1 rfl rfl dc283_12.2.2.1 ?_
        refine am_s_goto rfl dc283_12.2.2.2 ?_
        exact (vi_f (vi_t (vi_f q c1).2 c2) c3).2.2.2.2.2.2.2
    · refine am_s_aload_n rfl dc216_0.2.2.2 ?_
      refine am_s_dup rfl dc216_1.1.1.1 ?_
      refine am_x_getI (x := 0) dc216_1.1.1.2 rfl rfl (Or.inl rfl) rfl ?_
      refine am_s_iconst am_cc1 dc216_1.1.2.1 ?_
      refine am_s_iload_n rfl dc216_1.1.2.2 ?_
      refine am_s_ishl dc216_1.2.1.1 ?_
      refine am_s_ior dc216_1.2.1.2 ?_
      refine am_s_putI dc216_1.2.2.1 rfl rfl rfl rfl ?_
      refine am_s_goto rfl dc216_1.2.2.2 ?_
      refine am_s_return dc216_5 rfl (am_bkV ?_)
      refine am_s_aload_n rfl dc283_10.2.2.1 ?_
      refine am_s_aload_n rfl dc283_10.2.2.2 ?_
      refine am_s_getR (r := 167) dc283_11.1.1.1 rfl rfl rfl (hp _ _ _ rfl) ?_
      refine am_s_sipush am_cs972 dc283_11.1.1.2 ?_
      refine am_s_iconst am_cc5 dc283_11.1.2.1 ?_
      refine am_s_iload_n rfl dc283_11.1.2.2 ?_
      refine am_s_imul dc283_11.2.1.1 ?_
      refine am_s_iadd dc283_11.2.1.2 ?_
      refine am_x_iaload (x := I 167 (Int32.toNatClampNeg (972 + (5 * x1)))) dc283_11.2.2.1 rfl ((vi_f (vi_f q c1).2 c2).1) rfl rfl ?_
      refine am_s_aload_n rfl dc283_11.2.2.2 ?_
      refine am_x_getI (x := (0 : Int32) ||| ((1 : Int32) <<< (((I 167 (Int32.toNatClampNeg ((972 + (5 * x1)) + 2))) - 32) &&& 31))) dc283_12.1.1.1 rfl rfl (Or.inl rfl) rfl ?_
      refine am_s_aload_n rfl dc283_12.1.1.2 ?_
      refine am_x_getI (x := 0) dc283_12.1.2.1 rfl rfl (Or.inl rfl) rfl ?_
      refine am_s_aload_n rfl dc283_12.1.2.2 ?_
      refine am_x_getI (x := 0) dc283_12.2.1.1 rfl rfl (Or.inl rfl) rfl ?_
      refine am_s_virtual true dc283_12.2.1.2 rfl (by decide) rfl rfl rfl (am_mth_of rfl rfl ?_)
      refine am_s_aload_n rfl dc281_0.1.1.1 ?_
      refine am_s_getR (r := 191) dc281_0.1.1.2 rfl rfl rfl (hp _ _ _ rfl) ?_
      refine am_s_iconst am_cc3 dc281_0.1.2.1 ?_
      refine am_s_iload_n rfl dc281_0.1.2.2 ?_
      refine am_s_imul dc281_0.2.1.1 ?_
      refine am_s_dup2 rfl rfl dc281_0.2.1.2 ?_
      refine am_x_iaload (x := I 191 (Int32.toNatClampNeg (3 * (I 167 (Int32.toNatClampNeg (972 + (5 * x1))))))) dc281_0.2.2.1 rfl ((vi_f (vi_f q c1).2 c2).2.1) rfl rfl ?_
      refine am_s_iload_n rfl dc281_0.2.2.2 ?_
      refine am_s_ior dc281_1.1.1.1 ?_
      refine am_s_iastore dc281_1.1.1.2 rfl ((vi_f (vi_f q c1).2 c2).2.2.1) rfl ?_
      refine am_s_aload_n rfl dc281_1.1.2.1 ?_
      refine am_s_getR (r := 191) dc281_1.1.2.2 rfl rfl rfl (hp _ _ _ rfl) ?_
      refine am_s_iconst am_cc3 dc281_1.2.1.1 ?_
      refine am_s_iload_n rfl dc281_1.2.1.2 ?_
      refine am_s_imul dc281_1.2.2.1 ?_
      refine am_s_iconst am_cc1 dc281_1.2.2.2 ?_
      refine am_s_iadd dc281_2.1.1.1 ?_
      refine am_s_dup2 rfl rfl dc281_2.1.1.2 ?_
      refine am_x_iaload (x := (am_u (am_u (am_u (am_u (am_u I 163 17 0) 163 18 0) 163 19 0) 163 17 ((0 : Int32) ||| ((1 : Int32) <<< (((I 167 (Int32.toNatClampNeg ((972 + (5 * x1)) + 2))) - 32) &&& 31)))) 191 (Int32.toNatClampNeg (3 * (I 167 (Int32.toNatClampNeg (972 + (5 * x1)))))) ((I 191 (Int32.toNatClampNeg (3 * (I 167 (Int32.toNatClampNeg (972 + (5 * x1))))))) ||| ((0 : Int32) ||| ((1 : Int32) <<< (((I 167 (Int32.toNatClampNeg ((972 + (5 * x1)) + 2))) - 32) &&& 31))))) 191 (Int32.toNatClampNeg ((3 * (I 167 (Int32.toNatClampNeg (972 + (5 * x1))))) + 1))) dc281_2.1.2.1 rfl ((vi_f (vi_f q c1).2 c2).2.2.2.1) rfl rfl ?_
      refine am_s_iload_n rfl dc281_2.1.2.2 ?_
      refine am_s_ior dc281_2.2.1.1 ?_
      refine am_s_iastore dc281_2.2.1.2 rfl ((vi_f (vi_f q c1).2 c2).2.2.2.2.1) rfl ?_
      refine am_s_aload_n rfl dc281_2.2.2.1 ?_
      refine am_s_getR (r := 191) dc281_2.2.2.2 rfl rfl rfl (hp _ _ _ rfl) ?_
      refine am_s_iconst am_cc3 dc281_3.1.1.1 ?_
      refine am_s_iload_n rfl dc281_3.1.1.2 ?_
      refine am_s_imul dc281_3.1.2.1 ?_
      refine am_s_iconst am_cc2 dc281_3.1.2.2 ?_
      refine am_s_iadd dc281_3.2.1.1 ?_
      refine am_s_dup2 rfl rfl dc281_3.2.1.2 ?_
      refine am_x_iaload (x := (am_u (am_u (am_u (am_u (am_u (am_u I 163 17 0) 163 18 0) 163 19 0) 163 17 ((0 : Int32) ||| ((1 : Int32) <<< (((I 167 (Int32.toNatClampNeg ((972 + (5 * x1)) + 2))) - 32) &&& 31)))) 191 (Int32.toNatClampNeg (3 * (I 167 (Int32.toNatClampNeg (972 + (5 * x1)))))) ((I 191 (Int32.toNatClampNeg (3 * (I 167 (Int32.toNatClampNeg (972 + (5 * x1))))))) ||| ((0 : Int32) ||| ((1 : Int32) <<< (((I 167 (Int32.toNatClampNeg ((972 + (5 * x1)) + 2))) - 32) &&& 31))))) 191 (Int32.toNatClampNeg ((3 * (I 167 (Int32.toNatClampNeg (972 + (5 * x1))))) + 1)) (((am_u (am_u (am_u (am_u (am_u I 163 17 0) 163 18 0) 163 19 0) 163 17 ((0 : Int32) ||| ((1 : Int32) <<< (((I 167 (Int32.toNatClampNeg ((972 + (5 * x1)) + 2))) - 32) &&& 31)))) 191 (Int32.toNatClampNeg (3 * (I 167 (Int32.toNatClampNeg (972 + (5 * x1)))))) ((I 191 (Int32.toNatClampNeg (3 * (I 167 (Int32.toNatClampNeg (972 + (5 * x1))))))) ||| ((0 : Int32) ||| ((1 : Int32) <<< (((I 167 (Int32.toNatClampNeg ((972 + (5 * x1)) + 2))) - 32) &&& 31))))) 191 (Int32.toNatClampNeg ((3 * (I 167 (Int32.toNatClampNeg (972 + (5 * x1))))) + 1))) ||| 0)) 191 (Int32.toNatClampNeg ((3 * (I 167 (Int32.toNatClampNeg (972 + (5 * x1))))) + 2))) dc281_3.2.2.1 rfl ((vi_f (vi_f q c1).2 c2).2.2.2.2.2.1) rfl rfl ?_
      refine am_s_iload rfl dc281_3.2.2.2 ?_
      refine am_s_ior dc281_4.1 ?_
      refine am_s_iastore dc281_4.2.1 rfl ((vi_f (vi_f q c1).2 c2).2.2.2.2.2.2.1) rfl ?_
      refine am_s_return dc281_4.2.2 rfl (am_bkV ?_)
      refine am_s_iinc (ls' := [some (.ref 163), some (.int (x1 + 1)), l2]) am_cc1 rfl rfl dc283_12.2.2.1 ?_
      refine am_s_goto rfl dc283_12.2.2.2 ?_
      exact (vi_f (vi_f q c1).2 c2).2.2.2.2.2.2.2
theorem v283_175 {sc : Option (Nat × (Nat → Int32))} {d k n : Nat} {P : am_O → Prop} {I : am_I} {J : am_J} {Pf : am_R} (hp : am_PF Pf) {x1 : Int32} {l2 : Option Value} (q : (if 8 < x1 then (P (.inl none, (am_SH, I, J, Pf), k, n)) else (am_go sc d 283 (183, [some (.ref 163), some (.int x1), some (.int 0)], [], (am_SH, I, J, Pf), k, n) P))) : am_go sc d 283 (175, [some (.ref 163), some (.int x1), l2], [], (am_SH, I, J, Pf), k, n) P := by
  refine am_s_iload_n rfl dc283_13.1.2.1 ?_
  refine am_s_bipush am_cb8 dc283_13.1.2.2 ?_
  refine am_s_ic_gt dc283_13.2.1.1 rfl (fun c1 => ?_) (fun c1 => ?_)
  · exact am_s_return dc283_15.2.2.2 rfl ((vi_t q c1))
  · refine am_s_iconst am_cc0 dc283_13.2.1.2 ?_
    refine am_s_istore_n (ls' := [some (.ref 163), some (.int x1), some (.int 0)]) rfl rfl dc283_13.2.2.1 ?_
    exact (vi_f q c1)
theorem v283_183 {sc : Option (Nat × (Nat → Int32))} {d k n : Nat} {P : am_O → Prop} {I : am_I} {J : am_J} {Pf : am_R} (hp : am_PF Pf) {x1 : Int32} {x2 : Int32} (q : (if (I 167 1) ≤ x2 then (am_go sc d 283 (175, [some (.ref 163), some (.int (x1 + 1)), some (.int x2)], [], (am_SH, I, J, Pf), k, n) P) else (am_mth d 282 [.ref 163, .int x2] (am_SH, I, J, Pf) (am_af sc d 283 195 [some (.ref 163), some (.int x1), some (.int x2)] [.int x2, .ref 163] [] (am_SH, I, J, Pf) k n true P)))) : am_go sc d 283 (183, [some (.ref 163), some (.int x1), some (.int x2)], [], (am_SH, I, J, Pf), k, n) P := by
  refine am_s_iload_n rfl dc283_13.2.2.2 ?_
  refine am_s_aload_n rfl dc283_14.1.1.1 ?_
  refine am_s_getR (r := 167) dc283_14.1.1.2 rfl rfl rfl (hp _ _ _ rfl) ?_
  refine am_s_iconst am_cc1 dc283_14.1.2.1 ?_
  refine am_x_iaload (x := I 167 1) dc283_14.1.2.2 rfl (by decide +kernel) am_cN1 rfl ?_
  refine am_s_ic_ge dc283_14.2.1.1 rfl (fun c1 => ?_) (fun c1 => ?_)
  · refine am_s_iinc (ls' := [some (.ref 163), some (.int (x1 + 1)), some (.int x2)]) am_cc1 rfl rfl dc283_15.2.1 ?_
    refine am_s_goto rfl dc283_15.2.2.1 ?_
    exact (vi_t q c1)
  · refine am_s_aload_n rfl dc283_14.2.1.2 ?_
    refine am_s_iload_n rfl dc283_14.2.2.1 ?_
    exact am_s_virtual true dc283_14.2.2.2 rfl (by decide) rfl rfl rfl ((vi_f q c1))
theorem v283_70 {sc : Option (Nat × (Nat → Int32))} {d k n : Nat} {P : am_O → Prop} {I : am_I} {J : am_J} {Pf : am_R} (hp : am_PF Pf) {x1 : Int32} {x2 : Int32} {s0 : Int32} (q : (if s0 = 0 then (am_go sc d 283 (55, [some (.ref 163), some (.int x1), some (.int (x2 + 1))], [], (am_SH, I, J, Pf), k, n) P) else (am_in (32 + (3 * x2)) 1040 = true) ∧ (am_in (I 167 (Int32.toNatClampNeg (32 + (3 * x2)))) 8 = true) ∧ (am_go sc d 283 (55, [some (.ref 163), some (.int x1), some (.int (x2 + 1))], [], (am_SH, am_u I 190 (Int32.toNatClampNeg (I 167 (Int32.toNatClampNeg (32 + (3 * x2))))) 1, J, Pf), k, n) P))) : am_go sc d 283 (70, [some (.ref 163), some (.int x1), some (.int x2)], [.int s0], (am_SH, I, J, Pf), k, n) P := by
  refine am_s_if_eq dc283_5.2.1.1 rfl (fun c1 => ?_) (fun c1 => ?_)
  · refine am_s_iinc (ls' := [some (.ref 163), some (.int x1), some (.int (x2 + 1))]) am_cc1 rfl rfl dc283_7.1.1.2 ?_
    refine am_s_goto rfl dc283_7.1.2.1 ?_
    exact (vi_t q c1)
  · refine am_s_aload_n rfl dc283_5.2.1.2 ?_
    refine am_s_getR (r := 190) dc283_5.2.2.1 rfl rfl rfl (hp _ _ _ rfl) ?_
    refine am_s_aload_n rfl dc283_5.2.2.2 ?_
    refine am_s_getR (r := 167) dc283_6.1.1.1 rfl rfl rfl (hp _ _ _ rfl) ?_
    refine am_s_bipush am_cb32 dc283_6.1.1.2 ?_
    refine am_s_iconst am_cc3 dc283_6.1.2.1 ?_
    refine am_s_iload_n rfl dc283_6.1.2.2 ?_
    refine am_s_imul dc283_6.2.1.1 ?_
    refine am_s_iadd dc283_6.2.1.2 ?_
    refine am_x_iaload (x := I 167 (Int32.toNatClampNeg (32 + (3 * x2)))) dc283_6.2.2.1 rfl ((vi_f q c1).1) rfl rfl ?_
    refine am_s_iconst am_cc1 dc283_6.2.2.2 ?_
    refine am_s_bastore dc283_7.1.1.1 rfl ((vi_f q c1).2.1) (by decide) rfl ?_
    refine am_s_iinc (ls' := [some (.ref 163), some (.int x1), some (.int (x2 + 1))]) am_cc1 rfl rfl dc283_7.1.1.2 ?_
    refine am_s_goto rfl dc283_7.1.2.1 ?_
    exact (vi_f q c1).2.2
theorem v283_198 {sc : Option (Nat × (Nat → Int32))} {d k n : Nat} {P : am_O → Prop} {I : am_I} {J : am_J} {Pf : am_R} (hp : am_PF Pf) {x1 : Int32} {x2 : Int32} (q : (am_go sc d 283 (183, [some (.ref 163), some (.int x1), some (.int (x2 + 1))], [], (am_SH, I, J, Pf), k, n) P)) : am_go sc d 283 (198, [some (.ref 163), some (.int x1), some (.int x2)], [], (am_SH, I, J, Pf), k, n) P := by
  refine am_s_iinc (ls' := [some (.ref 163), some (.int x1), some (.int (x2 + 1))]) am_cc1 rfl rfl dc283_15.1.1 ?_
  refine am_s_goto rfl dc283_15.1.2 ?_
  exact q
-- isBegin (II)Z
theorem v284_0 {sc : Option (Nat × (Nat → Int32))} {d k n : Nat} {P : am_O → Prop} {I : am_I} {J : am_J} {Pf : am_R} (hp : am_PF Pf) {x1 : Int32} {x2 : Int32} {l3 : Option Value} (q : (am_in ((3 * x1) + ((x2 - 32) / 32)) 24 = true) ∧ (if (((I 191 (Int32.toNatClampNeg ((3 * x1) + ((x2 - 32) / 32)))) >>> (((x2 - 32) - (x2 - 32) / 32 * 32) &&& 31)) &&& 1) = 1 then (P (.inl (some (.int 1)), (am_SH, I, J, Pf), k, n)) else (P (.inl (some (.int 0)), (am_SH, I, J, Pf), k, n)))) : am_go sc d 284 (0, [some (.ref 163), some (.int x1), some (.int x2), l3], [], (am_SH, I, J, Pf), k, n) P := by
  refine am_s_iload_n rfl dc284_0.1.1.1 ?_
  refine am_s_bipush am_cb32 dc284_0.1.1.2 ?_
  refine am_s_isub dc284_0.1.2.1 ?_
  refine am_s_istore_n (ls' := [some (.ref 163), some (.int x1), some (.int x2), some (.int (x2 - 32))]) rfl rfl dc284_0.1.2.2 ?_
  refine am_s_aload_n rfl dc284_0.2.1.1 ?_
  refine am_s_getR (r := 191) dc284_0.2.1.2 rfl rfl rfl (hp _ _ _ rfl) ?_
  refine am_s_iconst am_cc3 dc284_0.2.2.1 ?_
  refine am_s_iload_n rfl dc284_0.2.2.2 ?_
  refine am_s_imul dc284_1.1.1.1 ?_
  refine am_s_iload_n rfl dc284_1.1.1.2 ?_
  refine am_s_bipush am_cb32 dc284_1.1.2.1 ?_
  refine am_s_idiv (by decide) dc284_1.1.2.2 ?_
  refine am_s_iadd dc284_1.2.1.1 ?_
  refine am_x_iaload (x := I 191 (Int32.toNatClampNeg ((3 * x1) + ((x2 - 32) / 32)))) dc284_1.2.1.2 rfl (q.1) rfl rfl ?_
  refine am_s_iload_n rfl dc284_1.2.2.1 ?_
  refine am_s_bipush am_cb32 dc284_1.2.2.2 ?_
  refine am_s_irem (by decide) dc284_2.1.1.1 ?_
  refine am_s_ishr dc284_2.1.1.2 ?_
  refine am_s_iconst am_cc1 dc284_2.1.2.1 ?_
  refine am_s_iand dc284_2.1.2.2 ?_
  refine am_s_iconst am_cc1 dc284_2.2.1.1 ?_
  refine am_s_ic_ne dc284_2.2.1.2 rfl (fun c1 => ?_) (fun c1 => ?_)
  · refine am_s_iconst am_cc0 dc284_3.1 ?_
    exact am_s_zreturn dc284_3.2 rfl (by decide) ((vi_f q.2 c1))
  · refine am_s_iconst am_cc1 dc284_2.2.2.1 ?_
    refine am_s_goto rfl dc284_2.2.2.2 ?_
    exact am_s_zreturn dc284_3.2 rfl (by decide) ((vi_t q.2 (Decidable.not_not.mp c1)))
-- sort (II)I
theorem v285_0 {sc : Option (Nat × (Nat → Int32))} {d k n : Nat} {P : am_O → Prop} {I : am_I} {J : am_J} {Pf : am_R} (hp : am_PF Pf) {x1 : Int32} {x2 : Int32} {l3 : Option Value} {l4 : Option Value} {l5 : Option Value} (q : (if x1 < 0 then (P (.inl (some (.int 0)), (am_SH, am_u (am_u (am_u I 163 0 0) 163 0 1) 164 1 ((I 164 1) + 1), J, Pf), k, n)) else (if 7 < x1 then (P (.inl (some (.int 0)), (am_SH, am_u (am_u (am_u I 163 0 0) 163 0 1) 164 1 ((I 164 1) + 1), J, Pf), k, n)) else (if x2 < 0 then (P (.inl (some (.int 0)), (am_SH, am_u (am_u (am_u I 163 0 0) 163 0 1) 164 1 ((I 164 1) + 1), J, Pf), k, n)) else (if 5 < x2 then (P (.inl (some (.int 0)), (am_SH, am_u (am_u (am_u I 163 0 0) 163 0 1) 164 1 ((I 164 1) + 1), J, Pf), k, n)) else (am_mth (d + 1) 283 [.ref 163] (am_SH, am_u I 163 0 0, J, Pf) (am_af sc (d + 1) 285 41 [some (.ref 163), some (.int x1), some (.int x2), l3, l4, l5] [.ref 163] [] (am_SH, am_u I 163 0 0, J, Pf) k n true P))))))) : am_go sc (d + 1) 285 (0, [some (.ref 163), some (.int x1), some (.int x2), l3, l4, l5], [], (am_SH, I, J, Pf), k, n) P := by
  refine am_s_aload_n rfl dc285_0.1.1.1 ?_
  refine am_s_iconst am_cc0 dc285_0.1.1.2 ?_
  refine am_s_putI dc285_0.1.2.1 rfl rfl rfl rfl ?_
  refine am_s_aload_n rfl dc285_0.1.2.2 ?_
  refine am_s_iload_n rfl dc285_0.2.1.1 ?_
  refine am_s_iconst am_cc0 dc285_0.2.1.2 ?_
  refine am_s_bipush am_cb7 dc285_0.2.2.1 ?_
  refine am_s_static dc285_0.2.2.2 rfl rfl rfl (am_mth_of rfl rfl ?_)
  refine am_s_iload_n rfl dc190_0.1.1.1 ?_
  refine am_s_iload_n rfl dc190_0.1.1.2 ?_
  refine am_s_ic_lt dc190_0.1.2.1 rfl (fun c1 => ?_) (fun c1 => ?_)
  · refine am_s_iconst am_cc0 dc190_1.1 ?_
    refine am_s_zreturn dc190_1.2 rfl (by decide) (am_bkI ?_)
    refine am_s_if_eq dc285_1.1.1.1 rfl (fun _ => ?_) (fun z => absurd z (by decide))
    refine am_s_iconst am_cc0 dc285_2.1.1.1 ?_
    refine am_s_iconst am_cc1 dc285_2.1.1.2 ?_
    refine am_s_iconst am_cc1 dc285_2.1.2.1 ?_
    refine am_s_virtual true dc285_2.1.2.2 rfl (by decide) rfl rfl rfl (am_mth_of rfl rfl ?_)
    refine am_s_iload_n rfl dc189_0.1.1.1 ?_
    refine am_s_if_ne dc189_0.1.1.2 rfl (fun z => absurd z (by decide)) (fun _ => ?_)
    refine am_s_aload_n rfl dc189_0.1.2.1 ?_
    refine am_x_getI (x := 0) dc189_0.1.2.2 rfl rfl (Or.inl rfl) rfl ?_
    refine am_s_if_ne dc189_0.2.1.1 rfl (fun z => absurd z (by decide)) (fun _ => ?_)
    refine am_s_aload_n rfl dc189_0.2.1.2 ?_
    refine am_s_iload_n rfl dc189_0.2.2.1 ?_
    refine am_s_putI dc189_0.2.2.2 rfl rfl rfl rfl ?_
    refine am_s_aload_n rfl dc189_1.1.1.1 ?_
    refine am_s_getR (r := 164) dc189_1.1.1.2 rfl rfl rfl (hp _ _ _ rfl) ?_
    refine am_s_iload_n rfl dc189_1.1.2.1 ?_
    refine am_s_dup2 rfl rfl dc189_1.1.2.2 ?_
    refine am_x_iaload (x := I 164 1) dc189_1.2.1.1 rfl (by decide +kernel) am_cN1 rfl ?_
    refine am_s_iconst am_cc1 dc189_1.2.1.2 ?_
    refine am_s_iadd dc189_1.2.2.1 ?_
    refine am_s_iastore dc189_1.2.2.2 rfl (by decide +kernel) am_cN1 ?_
    refine am_s_aload_n rfl dc189_2.1.1 ?_
    refine am_x_getI (x := 1) dc189_2.1.2.1 rfl rfl (Or.inl rfl) rfl ?_
    refine am_s_if_ne dc189_2.1.2.2 rfl (fun _ => ?_) (fun z => absurd z (by decide))
    refine am_s_iconst am_cc0 dc189_2.2.2.1 ?_
    refine am_s_zreturn dc189_2.2.2.2 rfl (by decide) (am_bkI ?_)
    refine am_s_if_ne dc285_2.2.1.1 rfl (fun z => absurd z (by decide)) (fun _ => ?_)
    refine am_s_iconst am_cc0 dc285_2.2.1.2 ?_
    exact am_s_ireturn dc285_2.2.2.1 rfl ((vi_t q c1))
  · refine am_s_iload_n rfl dc190_0.1.2.2 ?_
    refine am_s_iload_n rfl dc190_0.2.1.1 ?_
    refine am_s_ic_gt dc190_0.2.1.2 rfl (fun c2 => ?_) (fun c2 => ?_)
    · refine am_s_iconst am_cc0 dc190_1.1 ?_
      refine am_s_zreturn dc190_1.2 rfl (by decide) (am_bkI ?_)
      refine am_s_if_eq dc285_1.1.1.1 rfl (fun _ => ?_) (fun z => absurd z (by decide))
      refine am_s_iconst am_cc0 dc285_2.1.1.1 ?_
      refine am_s_iconst am_cc1 dc285_2.1.1.2 ?_
      refine am_s_iconst am_cc1 dc285_2.1.2.1 ?_
      refine am_s_virtual true dc285_2.1.2.2 rfl (by decide) rfl rfl rfl (am_mth_of rfl rfl ?_)
      refine am_s_iload_n rfl dc189_0.1.1.1 ?_
      refine am_s_if_ne dc189_0.1.1.2 rfl (fun z => absurd z (by decide)) (fun _ => ?_)
      refine am_s_aload_n rfl dc189_0.1.2.1 ?_
      refine am_x_getI (x := 0) dc189_0.1.2.2 rfl rfl (Or.inl rfl) rfl ?_
      refine am_s_if_ne dc189_0.2.1.1 rfl (fun z => absurd z (by decide)) (fun _ => ?_)
      refine am_s_aload_n rfl dc189_0.2.1.2 ?_
      refine am_s_iload_n rfl dc189_0.2.2.1 ?_
      refine am_s_putI dc189_0.2.2.2 rfl rfl rfl rfl ?_
      refine am_s_aload_n rfl dc189_1.1.1.1 ?_
      refine am_s_getR (r := 164) dc189_1.1.1.2 rfl rfl rfl (hp _ _ _ rfl) ?_
      refine am_s_iload_n rfl dc189_1.1.2.1 ?_
      refine am_s_dup2 rfl rfl dc189_1.1.2.2 ?_
      refine am_x_iaload (x := I 164 1) dc189_1.2.1.1 rfl (by decide +kernel) am_cN1 rfl ?_
      refine am_s_iconst am_cc1 dc189_1.2.1.2 ?_
      refine am_s_iadd dc189_1.2.2.1 ?_
      refine am_s_iastore dc189_1.2.2.2 rfl (by decide +kernel) am_cN1 ?_
      refine am_s_aload_n rfl dc189_2.1.1 ?_
      refine am_x_getI (x := 1) dc189_2.1.2.1 rfl rfl (Or.inl rfl) rfl ?_
      refine am_s_if_ne dc189_2.1.2.2 rfl (fun _ => ?_) (fun z => absurd z (by decide))
      refine am_s_iconst am_cc0 dc189_2.2.2.1 ?_
      refine am_s_zreturn dc189_2.2.2.2 rfl (by decide) (am_bkI ?_)
      refine am_s_if_ne dc285_2.2.1.1 rfl (fun z => absurd z (by decide)) (fun _ => ?_)
      refine am_s_iconst am_cc0 dc285_2.2.1.2 ?_
      exact am_s_ireturn dc285_2.2.2.1 rfl ((vi_t (vi_f q c1) c2))
    · refine am_s_iconst am_cc1 dc190_0.2.2.1 ?_
      refine am_s_goto rfl dc190_0.2.2.2 ?_
      refine am_s_zreturn dc190_1.2 rfl (by decide) (am_bkI ?_)
      refine am_s_if_eq dc285_1.1.1.1 rfl (fun z => absurd z (by decide)) (fun _ => ?_)
      refine am_s_iload_n rfl dc285_1.1.1.2 ?_
      refine am_s_iconst am_cc0 dc285_1.1.2.1 ?_
      refine am_s_iconst am_cc5 dc285_1.1.2.2 ?_
      refine am_s_static dc285_1.2.1.1 rfl rfl rfl (am_mth_of rfl rfl ?_)
      refine am_s_iload_n rfl dc190_0.1.1.1 ?_
      refine am_s_iload_n rfl dc190_0.1.1.2 ?_
      refine am_s_ic_lt dc190_0.1.2.1 rfl (fun c3 => ?_) (fun c3 => ?_)
      · refine am_s_iconst am_cc0 dc190_1.1 ?_
        refine am_s_zreturn dc190_1.2 rfl (by decide) (am_bkI ?_)
        refine am_s_if_eq dc285_1.2.1.2 rfl (fun _ => ?_) (fun z => absurd z (by decide))
        refine am_s_iconst am_cc0 dc285_2.1.1.1 ?_
        refine am_s_iconst am_cc1 dc285_2.1.1.2 ?_
        refine am_s_iconst am_cc1 dc285_2.1.2.1 ?_
        refine am_s_virtual true dc285_2.1.2.2 rfl (by decide) rfl rfl rfl (am_mth_of rfl rfl ?_)
        refine am_s_iload_n rfl dc189_0.1.1.1 ?_
        refine am_s_if_ne dc189_0.1.1.2 rfl (fun z => absurd z (by decide)) (fun _ => ?_)
        refine am_s_aload_n rfl dc189_0.1.2.1 ?_
        refine am_x_getI (x := 0) dc189_0.1.2.2 rfl rfl (Or.inl rfl) rfl ?_
        refine am_s_if_ne dc189_0.2.1.1 rfl (fun z => absurd z (by decide)) (fun _ => ?_)
        refine am_s_aload_n rfl dc189_0.2.1.2 ?_
        refine am_s_iload_n rfl dc189_0.2.2.1 ?_
        refine am_s_putI dc189_0.2.2.2 rfl rfl rfl rfl ?_
        refine am_s_aload_n rfl dc189_1.1.1.1 ?_
        refine am_s_getR (r := 164) dc189_1.1.1.2 rfl rfl rfl (hp _ _ _ rfl) ?_
        refine am_s_iload_n rfl dc189_1.1.2.1 ?_
        refine am_s_dup2 rfl rfl dc189_1.1.2.2 ?_
        refine am_x_iaload (x := I 164 1) dc189_1.2.1.1 rfl (by decide +kernel) am_cN1 rfl ?_
        refine am_s_iconst am_cc1 dc189_1.2.1.2 ?_
        refine am_s_iadd dc189_1.2.2.1 ?_
        refine am_s_iastore dc189_1.2.2.2 rfl (by decide +kernel) am_cN1 ?_
        refine am_s_aload_n rfl dc189_2.1.1 ?_
        refine am_x_getI (x := 1) dc189_2.1.2.1 rfl rfl (Or.inl rfl) rfl ?_
        refine am_s_if_ne dc189_2.1.2.2 rfl (fun _ => ?_) (fun z => absurd z (by decide))
        refine am_s_iconst am_cc0 dc189_2.2.2.1 ?_
        refine am_s_zreturn dc189_2.2.2.2 rfl (by decide) (am_bkI ?_)
        refine am_s_if_ne dc285_2.2.1.1 rfl (fun z => absurd z (by decide)) (fun _ => ?_)
        refine am_s_iconst am_cc0 dc285_2.2.1.2 ?_
        exact am_s_ireturn dc285_2.2.2.1 rfl ((vi_t (vi_f (vi_f q c1) c2) c3))
      · refine am_s_iload_n rfl dc190_0.1.2.2 ?_
        refine am_s_iload_n rfl dc190_0.2.1.1 ?_
        refine am_s_ic_gt dc190_0.2.1.2 rfl (fun c4 => ?_) (fun c4 => ?_)
        · refine am_s_iconst am_cc0 dc190_1.1 ?_
          refine am_s_zreturn dc190_1.2 rfl (by decide) (am_bkI ?_)
          refine am_s_if_eq dc285_1.2.1.2 rfl (fun _ => ?_) (fun z => absurd z (by decide))
          refine am_s_iconst am_cc0 dc285_2.1.1.1 ?_
          refine am_s_iconst am_cc1 dc285_2.1.1.2 ?_
          refine am_s_iconst am_cc1 dc285_2.1.2.1 ?_
          refine am_s_virtual true dc285_2.1.2.2 rfl (by decide) rfl rfl rfl (am_mth_of rfl rfl ?_)
          refine am_s_iload_n rfl dc189_0.1.1.1 ?_
          refine am_s_if_ne dc189_0.1.1.2 rfl (fun z => absurd z (by decide)) (fun _ => ?_)
          refine am_s_aload_n rfl dc189_0.1.2.1 ?_
          refine am_x_getI (x := 0) dc189_0.1.2.2 rfl rfl (Or.inl rfl) rfl ?_
          refine am_s_if_ne dc189_0.2.1.1 rfl (fun z => absurd z (by decide)) (fun _ => ?_)
          refine am_s_aload_n rfl dc189_0.2.1.2 ?_
          refine am_s_iload_n rfl dc189_0.2.2.1 ?_
          refine am_s_putI dc189_0.2.2.2 rfl rfl rfl rfl ?_
          refine am_s_aload_n rfl dc189_1.1.1.1 ?_
          refine am_s_getR (r := 164) dc189_1.1.1.2 rfl rfl rfl (hp _ _ _ rfl) ?_
          refine am_s_iload_n rfl dc189_1.1.2.1 ?_
          refine am_s_dup2 rfl rfl dc189_1.1.2.2 ?_
          refine am_x_iaload (x := I 164 1) dc189_1.2.1.1 rfl (by decide +kernel) am_cN1 rfl ?_
          refine am_s_iconst am_cc1 dc189_1.2.1.2 ?_
          refine am_s_iadd dc189_1.2.2.1 ?_
          refine am_s_iastore dc189_1.2.2.2 rfl (by decide +kernel) am_cN1 ?_
          refine am_s_aload_n rfl dc189_2.1.1 ?_
          refine am_x_getI (x := 1) dc189_2.1.2.1 rfl rfl (Or.inl rfl) rfl ?_
          refine am_s_if_ne dc189_2.1.2.2 rfl (fun _ => ?_) (fun z => absurd z (by decide))
          refine am_s_iconst am_cc0 dc189_2.2.2.1 ?_
          refine am_s_zreturn dc189_2.2.2.2 rfl (by decide) (am_bkI ?_)
          refine am_s_if_ne dc285_2.2.1.1 rfl (fun z => absurd z (by decide)) (fun _ => ?_)
          refine am_s_iconst am_cc0 dc285_2.2.1.2 ?_
          exact am_s_ireturn dc285_2.2.2.1 rfl ((vi_t (vi_f (vi_f (vi_f q c1) c2) c3) c4))
        · refine am_s_iconst am_cc1 dc190_0.2.2.1 ?_
          refine am_s_goto rfl dc190_0.2.2.2 ?_
          refine am_s_zreturn dc190_1.2 rfl (by decide) (am_bkI ?_)
          refine am_s_if_eq dc285_1.2.1.2 rfl (fun z => absurd z (by decide)) (fun _ => ?_)
          refine am_s_iconst am_cc1 dc285_1.2.2.1 ?_
          refine am_s_goto rfl dc285_1.2.2.2 ?_
          refine am_s_iconst am_cc1 dc285_2.1.1.2 ?_
          refine am_s_iconst am_cc1 dc285_2.1.2.1 ?_
          refine am_s_virtual true dc285_2.1.2.2 rfl (by decide) rfl rfl rfl (am_mth_of rfl rfl ?_)
          refine am_s_iload_n rfl dc189_0.1.1.1 ?_
          refine am_s_if_ne dc189_0.1.1.2 rfl (fun _ => ?_) (fun z => absurd z (by decide))
          refine am_s_aload_n rfl dc189_2.1.1 ?_
          refine am_x_getI (x := 0) dc189_2.1.2.1 rfl rfl (Or.inl rfl) rfl ?_
          refine am_s_if_ne dc189_2.1.2.2 rfl (fun z => absurd z (by decide)) (fun _ => ?_)
          refine am_s_iconst am_cc1 dc189_2.2.1.1 ?_
          refine am_s_goto rfl dc189_2.2.1.2 ?_
          refine am_s_zreturn dc189_2.2.2.2 rfl (by decide) (am_bkI ?_)
          refine am_s_if_ne dc285_2.2.1.1 rfl (fun _ => ?_) (fun z => absurd z (by decide))
          refine am_s_aload_n rfl dc285_2.2.2.2 ?_
          exact am_s_virtual true dc285_3.1.1.1 rfl (by decide) rfl rfl rfl ((vi_f (vi_f (vi_f (vi_f q c1) c2) c3) c4))
theorem v285_53 {sc : Option (Nat × (Nat → Int32))} {d k n : Nat} {P : am_O → Prop} {I : am_I} {J : am_J} {Pf : am_R} (hp : am_PF Pf) {x1 : Int32} {x2 : Int32} {x3 : Int32} {x4 : Int32} {x5 : Int32} (q : (if x5 < 32 then (if 3 ≤ x2 then (if x2 = 3 then (P (.inl (some (.int x4)), (am_SH, I, J, Pf), k, n)) else (if x2 = 4 then (am_in x1 8 = true) ∧ (P (.inl (some (.int (I 169 (Int32.toNatClampNeg x1)))), (am_SH, I, J, Pf), k, n)) else (am_in x1 8 = true) ∧ (P (.inl (some (.int (I 170 (Int32.toNatClampNeg x1)))), (am_SH, I, J, Pf), k, n)))) else (if x2 = 0 then (am_in x1 8 = true) ∧ (P (.inl (some (.int (I 171 (Int32.toNatClampNeg x1)))), (am_SH, I, J, Pf), k, n)) else (if x2 = 1 then (am_in x1 8 = true) ∧ (if (I 190 (Int32.toNatClampNeg x1)) = 0 then (P (.inl (some (.int 0)), (am_SH, I, J, Pf), k, n)) else (P (.inl (some (.int 1)), (am_SH, I, J, Pf), k, n))) else (P (.inl (some (.int x3)), (am_SH, I, J, Pf), k, n))))) else (am_in ((3 * x1) + ((x5 - 32) / 32)) 24 = true) ∧ (if (((I 191 (Int32.toNatClampNeg ((3 * x1) + ((x5 - 32) / 32)))) >>> (((x5 - 32) - (x5 - 32) / 32 * 32) &&& 31)) &&& 1) = 1 then (am_go sc (d + 1) 285 (53, [some (.ref 163), some (.int x1), some (.int x2), some (.int (x3 + 1)), some (.int x5), some (.int (x5 + (-1)))], [], (am_SH, I, J, Pf), k, n) P) else (am_go sc (d + 1) 285 (53, [some (.ref 163), some (.int x1), some (.int x2), some (.int x3), some (.int x4), some (.int (x5 + (-1)))], [], (am_SH, I, J, Pf), k, n) P)))) : am_go sc (d + 1) 285 (53, [some (.ref 163), some (.int x1), some (.int x2), some (.int x3), some (.int x4), some (.int x5)], [], (am_SH, I, J, Pf), k, n) P := by
  refine am_s_iload rfl dc285_3.2.2.2 ?_
  refine am_s_bipush am_cb32 dc285_4.1.1.1 ?_
  refine am_s_ic_lt dc285_4.1.1.2 rfl (fun c1 => ?_) (fun c1 => ?_)
  · refine am_s_iload_n rfl dc285_5.2.1.2 ?_
    refine am_s_iconst am_cc3 dc285_5.2.2.1 ?_
    refine am_s_ic_ge dc285_5.2.2.2 rfl (fun c2 => ?_) (fun c2 => ?_)
    · refine am_s_iload_n rfl dc285_8.2.1.2 ?_
      refine am_s_iconst am_cc3 dc285_8.2.2.1 ?_
      refine am_s_ic_ne dc285_8.2.2.2 rfl (fun c3 => ?_) (fun c3 => ?_)
      · refine am_s_iload_n rfl dc285_9.1.2.1 ?_
        refine am_s_iconst am_cc4 dc285_9.1.2.2 ?_
        refine am_s_ic_ne dc285_9.2.1.1 rfl (fun c4 => ?_) (fun c4 => ?_)
        · refine am_s_aload_n rfl dc285_10.1.2.2 ?_
          refine am_s_getR (r := 170) dc285_10.2.1.1 rfl rfl rfl (hp _ _ _ rfl) ?_
          refine am_s_iload_n rfl dc285_10.2.1.2 ?_
          refine am_x_iaload (x := I 170 (Int32.toNatClampNeg x1)) dc285_10.2.2.1 rfl ((vi_f (vi_f (vi_t (vi_t q c1) c2) c3) c4).1) rfl rfl ?_
          exact am_s_ireturn dc285_10.2.2.2 rfl ((vi_f (vi_f (vi_t (vi_t q c1) c2) c3) c4).2)
        · refine am_s_aload_n rfl dc285_9.2.1.2 ?_
          refine am_s_getR (r := 169) dc285_9.2.2.1 rfl rfl rfl (hp _ _ _ rfl) ?_
          refine am_s_iload_n rfl dc285_9.2.2.2 ?_
          refine am_x_iaload (x := I 169 (Int32.toNatClampNeg x1)) dc285_10.1.1 rfl ((vi_t (vi_f (vi_t (vi_t q c1) c2) c3) (Decidable.not_not.mp c4)).1) rfl rfl ?_
          refine am_s_goto rfl dc285_10.1.2.1 ?_
          exact am_s_ireturn dc285_10.2.2.2 rfl ((vi_t (vi_f (vi_t (vi_t q c1) c2) c3) (Decidable.not_not.mp c4)).2)
      · refine am_s_iload rfl dc285_9.1.1.1 ?_
        refine am_s_goto rfl dc285_9.1.1.2 ?_
        exact am_s_ireturn dc285_10.2.2.2 rfl ((vi_t (vi_t (vi_t q c1) c2) (Decidable.not_not.mp c3)))
    · refine am_s_iload_n rfl dc285_6.1.1.1 ?_
      refine am_s_if_ne dc285_6.1.1.2 rfl (fun c3 => ?_) (fun c3 => ?_)
      · refine am_s_iload_n rfl dc285_6.2.2.2 ?_
        refine am_s_iconst am_cc1 dc285_7.1.1.1 ?_
        refine am_s_ic_ne dc285_7.1.1.2 rfl (fun c4 => ?_) (fun c4 => ?_)
        · refine am_s_iload_n rfl dc285_8.1.2.2 ?_
          exact am_s_ireturn dc285_8.2.1.1 rfl ((vi_f (vi_f (vi_f (vi_t q c1) c2) c3) c4))
        · refine am_s_aload_n rfl dc285_7.1.2.1 ?_
          refine am_s_getR (r := 190) dc285_7.1.2.2 rfl rfl rfl (hp _ _ _ rfl) ?_
          refine am_s_iload_n rfl dc285_7.2.1.1 ?_
          refine am_x_baload (x := I 190 (Int32.toNatClampNeg x1)) dc285_7.2.1.2 rfl ((vi_t (vi_f (vi_f (vi_t q c1) c2) c3) (Decidable.not_not.mp c4)).1) rfl rfl ?_
          refine am_s_if_eq dc285_7.2.2.1 rfl (fun c5 => ?_) (fun c5 => ?_)
          · refine am_s_iconst am_cc0 dc285_8.1.1.2 ?_
            refine am_s_goto rfl dc285_8.1.2.1 ?_
            exact am_s_ireturn dc285_8.2.1.1 rfl ((vi_t (vi_t (vi_f (vi_f (vi_t q c1) c2) c3) (Decidable.not_not.mp c4)).2 c5))
          · refine am_s_iconst am_cc1 dc285_7.2.2.2 ?_
            refine am_s_goto rfl dc285_8.1.1.1 ?_
            exact am_s_ireturn dc285_8.2.1.1 rfl ((vi_f (vi_t (vi_f (vi_f (vi_t q c1) c2) c3) (Decidable.not_not.mp c4)).2 c5))
      · refine am_s_aload_n rfl dc285_6.1.2.1 ?_
        refine am_s_getR (r := 171) dc285_6.1.2.2 rfl rfl rfl (hp _ _ _ rfl) ?_
        refine am_s_iload_n rfl dc285_6.2.1.1 ?_
        refine am_x_iaload (x := I 171 (Int32.toNatClampNeg x1)) dc285_6.2.1.2 rfl ((vi_t (vi_f (vi_t q c1) c2) (Decidable.not_not.mp c3)).1) rfl rfl ?_
        refine am_s_goto rfl dc285_6.2.2.1 ?_
        exact am_s_ireturn dc285_8.2.1.1 rfl ((vi_t (vi_f (vi_t q c1) c2) (Decidable.not_not.mp c3)).2)
  · refine am_s_aload_n rfl dc285_4.1.2.1 ?_
    refine am_s_iload_n rfl dc285_4.1.2.2 ?_
    refine am_s_iload rfl dc285_4.2.1.1 ?_
    refine am_s_virtual true dc285_4.2.1.2 rfl (by decide) rfl rfl rfl (am_mth_of rfl rfl ?_)
    refine am_s_iload_n rfl dc284_0.1.1.1 ?_
    refine am_s_bipush am_cb32 dc284_0.1.1.2 ?_
    refine am_s_isub dc284_0.1.2.1 ?_
    refine am_s_istore_n (ls' := [some (.ref 163), some (.int x1), some (.int x5), some (.int (x5 - 32))]) rfl rfl dc284_0.1.2.2 ?_
    refine am_s_aload_n rfl dc284_0.2.1.1 ?_
    refine am_s_getR (r := 191) dc284_0.2.1.2 rfl rfl rfl (hp _ _ _ rfl) ?_
    refine am_s_iconst am_cc3 dc284_0.2.2.1 ?_
    refine am_s_iload_n rfl dc284_0.2.2.2 ?_
    refine am_s_imul dc284_1.1.1.1 ?_
    refine am_s_iload_n rfl dc284_1.1.1.2 ?_
    refine am_s_bipush am_cb32 dc284_1.1.2.1 ?_
    refine am_s_idiv (by decide) dc284_1.1.2.2 ?_
    refine am_s_iadd dc284_1.2.1.1 ?_
    refine am_x_iaload (x := I 191 (Int32.toNatClampNeg ((3 * x1) + ((x5 - 32) / 32)))) dc284_1.2.1.2 rfl ((vi_f q c1).1) rfl rfl ?_
    refine am_s_iload_n rfl dc284_1.2.2.1 ?_
    refine am_s_bipush am_cb32 dc284_1.2.2.2 ?_
    refine am_s_irem (by decide) dc284_2.1.1.1 ?_
    refine am_s_ishr dc284_2.1.1.2 ?_
    refine am_s_iconst am_cc1 dc284_2.1.2.1 ?_
    refine am_s_iand dc284_2.1.2.2 ?_
    refine am_s_iconst am_cc1 dc284_2.2.1.1 ?_
    refine am_s_ic_ne dc284_2.2.1.2 rfl (fun c2 => ?_) (fun c2 => ?_)
    · refine am_s_iconst am_cc0 dc284_3.1 ?_
      refine am_s_zreturn dc284_3.2 rfl (by decide) (am_bkI ?_)
      refine am_s_if_ne dc285_4.2.2.1 rfl (fun z => absurd z (by decide)) (fun _ => ?_)
      refine am_s_goto rfl dc285_4.2.2.2 ?_
      refine am_s_iinc (ls' := [some (.ref 163), some (.int x1), some (.int x2), some (.int x3), some (.int x4), some (.int (x5 + (-1)))]) am_ccm1 rfl rfl dc285_5.1.2.2 ?_
      refine am_s_goto rfl dc285_5.2.1.1 ?_
      exact (vi_f (vi_f q c1).2 c2)
    · refine am_s_iconst am_cc1 dc284_2.2.2.1 ?_
      refine am_s_goto rfl dc284_2.2.2.2 ?_
      refine am_s_zreturn dc284_3.2 rfl (by decide) (am_bkI ?_)
      refine am_s_if_ne dc285_4.2.2.1 rfl (fun _ => ?_) (fun z => absurd z (by decide))
      refine am_s_iinc (ls' := [some (.ref 163), some (.int x1), some (.int x2), some (.int (x3 + 1)), some (.int x4), some (.int x5)]) am_cc1 rfl rfl dc285_5.1.1.1 ?_
      refine am_s_iload rfl dc285_5.1.1.2 ?_
      refine am_s_istore (ls' := [some (.ref 163), some (.int x1), some (.int x2), some (.int (x3 + 1)), some (.int x5), some (.int x5)]) rfl rfl dc285_5.1.2.1 ?_
      refine am_s_iinc (ls' := [some (.ref 163), some (.int x1), some (.int x2), some (.int (x3 + 1)), some (.int x5), some (.int (x5 + (-1)))]) am_ccm1 rfl rfl dc285_5.1.2.2 ?_
      refine am_s_goto rfl dc285_5.2.1.1 ?_
      exact (vi_t (vi_f q c1).2 (Decidable.not_not.mp c2))
theorem v285_44 {sc : Option (Nat × (Nat → Int32))} {d k n : Nat} {P : am_O → Prop} {I : am_I} {J : am_J} {Pf : am_R} (hp : am_PF Pf) {x1 : Int32} {x2 : Int32} {l3 : Option Value} {l4 : Option Value} {l5 : Option Value} (q : (am_go sc d 285 (53, [some (.ref 163), some (.int x1), some (.int x2), some (.int 0), some (.int (-1)), some (.int 126)], [], (am_SH, I, J, Pf), k, n) P)) : am_go sc d 285 (44, [some (.ref 163), some (.int x1), some (.int x2), l3, l4, l5], [], (am_SH, I, J, Pf), k, n) P := by
  refine am_s_iconst am_cc0 dc285_3.1.1.2 ?_
  refine am_s_istore_n (ls' := [some (.ref 163), some (.int x1), some (.int x2), some (.int 0), l4, l5]) rfl rfl dc285_3.1.2.1 ?_
  refine am_s_iconst am_ccm1 dc285_3.1.2.2 ?_
  refine am_s_istore (ls' := [some (.ref 163), some (.int x1), some (.int x2), some (.int 0), some (.int (-1)), l5]) rfl rfl dc285_3.2.1.1 ?_
  refine am_s_bipush am_cb126 dc285_3.2.1.2 ?_
  refine am_s_istore (ls' := [some (.ref 163), some (.int x1), some (.int x2), some (.int 0), some (.int (-1)), some (.int 126)]) rfl rfl dc285_3.2.2.1 ?_
  exact q
-- begins (II)Z
theorem v286_0 {sc : Option (Nat × (Nat → Int32))} {d k n : Nat} {P : am_O → Prop} {I : am_I} {J : am_J} {Pf : am_R} (hp : am_PF Pf) {x1 : Int32} {x2 : Int32} (q : (if x1 < 0 then (P (.inl (some (.int 0)), (am_SH, am_u (am_u (am_u I 163 0 0) 163 0 1) 164 1 ((I 164 1) + 1), J, Pf), k, n)) else (if 7 < x1 then (P (.inl (some (.int 0)), (am_SH, am_u (am_u (am_u I 163 0 0) 163 0 1) 164 1 ((I 164 1) + 1), J, Pf), k, n)) else (if x2 < 32 then (P (.inl (some (.int 0)), (am_SH, am_u (am_u (am_u I 163 0 0) 163 0 1) 164 1 ((I 164 1) + 1), J, Pf), k, n)) else (if 127 ≤ x2 then (P (.inl (some (.int 0)), (am_SH, am_u (am_u (am_u I 163 0 0) 163 0 1) 164 1 ((I 164 1) + 1), J, Pf), k, n)) else (am_mth (d + 1) 283 [.ref 163] (am_SH, am_u I 163 0 0, J, Pf) (am_af sc (d + 1) 286 40 [some (.ref 163), some (.int x1), some (.int x2)] [.ref 163] [] (am_SH, am_u I 163 0 0, J, Pf) k n true P))))))) : am_go sc (d + 1) 286 (0, [some (.ref 163), some (.int x1), some (.int x2)], [], (am_SH, I, J, Pf), k, n) P := by
  refine am_s_aload_n rfl dc286_0.1.1.1 ?_
  refine am_s_iconst am_cc0 dc286_0.1.1.2 ?_
  refine am_s_putI dc286_0.1.2.1 rfl rfl rfl rfl ?_
  refine am_s_aload_n rfl dc286_0.1.2.2 ?_
  refine am_s_iload_n rfl dc286_0.2.1.1 ?_
  refine am_s_iconst am_cc0 dc286_0.2.1.2 ?_
  refine am_s_bipush am_cb7 dc286_0.2.2.1 ?_
  refine am_s_static dc286_0.2.2.2 rfl rfl rfl (am_mth_of rfl rfl ?_)
  refine am_s_iload_n rfl dc190_0.1.1.1 ?_
  refine am_s_iload_n rfl dc190_0.1.1.2 ?_
  refine am_s_ic_lt dc190_0.1.2.1 rfl (fun c1 => ?_) (fun c1 => ?_)
  · refine am_s_iconst am_cc0 dc190_1.1 ?_
    refine am_s_zreturn dc190_1.2 rfl (by decide) (am_bkI ?_)
    refine am_s_if_eq dc286_1.1.1.1 rfl (fun _ => ?_) (fun z => absurd z (by decide))
    refine am_s_iconst am_cc0 dc286_1.2.2.2 ?_
    refine am_s_iconst am_cc1 dc286_2.1.1.1 ?_
    refine am_s_iconst am_cc1 dc286_2.1.1.2 ?_
    refine am_s_virtual true dc286_2.1.2.1 rfl (by decide) rfl rfl rfl (am_mth_of rfl rfl ?_)
    refine am_s_iload_n rfl dc189_0.1.1.1 ?_
    refine am_s_if_ne dc189_0.1.1.2 rfl (fun z => absurd z (by decide)) (fun _ => ?_)
    refine am_s_aload_n rfl dc189_0.1.2.1 ?_
    refine am_x_getI (x := 0) dc189_0.1.2.2 rfl rfl (Or.inl rfl) rfl ?_
    refine am_s_if_ne dc189_0.2.1.1 rfl (fun z => absurd z (by decide)) (fun _ => ?_)
    refine am_s_aload_n rfl dc189_0.2.1.2 ?_
    refine am_s_iload_n rfl dc189_0.2.2.1 ?_
    refine am_s_putI dc189_0.2.2.2 rfl rfl rfl rfl ?_
    refine am_s_aload_n rfl dc189_1.1.1.1 ?_
    refine am_s_getR (r := 164) dc189_1.1.1.2 rfl rfl rfl (hp _ _ _ rfl) ?_
    refine am_s_iload_n rfl dc189_1.1.2.1 ?_
    refine am_s_dup2 rfl rfl dc189_1.1.2.2 ?_
    refine am_x_iaload (x := I 164 1) dc189_1.2.1.1 rfl (by decide +kernel) am_cN1 rfl ?_
    refine am_s_iconst am_cc1 dc189_1.2.1.2 ?_
    refine am_s_iadd dc189_1.2.2.1 ?_
    refine am_s_iastore dc189_1.2.2.2 rfl (by decide +kernel) am_cN1 ?_
    refine am_s_aload_n rfl dc189_2.1.1 ?_
    refine am_x_getI (x := 1) dc189_2.1.2.1 rfl rfl (Or.inl rfl) rfl ?_
    refine am_s_if_ne dc189_2.1.2.2 rfl (fun _ => ?_) (fun z => absurd z (by decide))
    refine am_s_iconst am_cc0 dc189_2.2.2.1 ?_
    refine am_s_zreturn dc189_2.2.2.2 rfl (by decide) (am_bkI ?_)
    refine am_s_if_ne dc286_2.1.2.2 rfl (fun z => absurd z (by decide)) (fun _ => ?_)
    refine am_s_iconst am_cc0 dc286_2.2.1.1 ?_
    exact am_s_zreturn dc286_2.2.1.2 rfl (by decide) ((vi_t q c1))
  · refine am_s_iload_n rfl dc190_0.1.2.2 ?_
    refine am_s_iload_n rfl dc190_0.2.1.1 ?_
    refine am_s_ic_gt dc190_0.2.1.2 rfl (fun c2 => ?_) (fun c2 => ?_)
    · refine am_s_iconst am_cc0 dc190_1.1 ?_
      refine am_s_zreturn dc190_1.2 rfl (by decide) (am_bkI ?_)
      refine am_s_if_eq dc286_1.1.1.1 rfl (fun _ => ?_) (fun z => absurd z (by decide))
      refine am_s_iconst am_cc0 dc286_1.2.2.2 ?_
      refine am_s_iconst am_cc1 dc286_2.1.1.1 ?_
      refine am_s_iconst am_cc1 dc286_2.1.1.2 ?_
      refine am_s_virtual true dc286_2.1.2.1 rfl (by decide) rfl rfl rfl (am_mth_of rfl rfl ?_)
      refine am_s_iload_n rfl dc189_0.1.1.1 ?_
      refine am_s_if_ne dc189_0.1.1.2 rfl (fun z => absurd z (by decide)) (fun _ => ?_)
      refine am_s_aload_n rfl dc189_0.1.2.1 ?_
      refine am_x_getI (x := 0) dc189_0.1.2.2 rfl rfl (Or.inl rfl) rfl ?_
      refine am_s_if_ne dc189_0.2.1.1 rfl (fun z => absurd z (by decide)) (fun _ => ?_)
      refine am_s_aload_n rfl dc189_0.2.1.2 ?_
      refine am_s_iload_n rfl dc189_0.2.2.1 ?_
      refine am_s_putI dc189_0.2.2.2 rfl rfl rfl rfl ?_
      refine am_s_aload_n rfl dc189_1.1.1.1 ?_
      refine am_s_getR (r := 164) dc189_1.1.1.2 rfl rfl rfl (hp _ _ _ rfl) ?_
      refine am_s_iload_n rfl dc189_1.1.2.1 ?_
      refine am_s_dup2 rfl rfl dc189_1.1.2.2 ?_
      refine am_x_iaload (x := I 164 1) dc189_1.2.1.1 rfl (by decide +kernel) am_cN1 rfl ?_
      refine am_s_iconst am_cc1 dc189_1.2.1.2 ?_
      refine am_s_iadd dc189_1.2.2.1 ?_
      refine am_s_iastore dc189_1.2.2.2 rfl (by decide +kernel) am_cN1 ?_
      refine am_s_aload_n rfl dc189_2.1.1 ?_
      refine am_x_getI (x := 1) dc189_2.1.2.1 rfl rfl (Or.inl rfl) rfl ?_
      refine am_s_if_ne dc189_2.1.2.2 rfl (fun _ => ?_) (fun z => absurd z (by decide))
      refine am_s_iconst am_cc0 dc189_2.2.2.1 ?_
      refine am_s_zreturn dc189_2.2.2.2 rfl (by decide) (am_bkI ?_)
      refine am_s_if_ne dc286_2.1.2.2 rfl (fun z => absurd z (by decide)) (fun _ => ?_)
      refine am_s_iconst am_cc0 dc286_2.2.1.1 ?_
      exact am_s_zreturn dc286_2.2.1.2 rfl (by decide) ((vi_t (vi_f q c1) c2))
    · refine am_s_iconst am_cc1 dc190_0.2.2.1 ?_
      refine am_s_goto rfl dc190_0.2.2.2 ?_
      refine am_s_zreturn dc190_1.2 rfl (by decide) (am_bkI ?_)
      refine am_s_if_eq dc286_1.1.1.1 rfl (fun z => absurd z (by decide)) (fun _ => ?_)
      refine am_s_aload_n rfl dc286_1.1.1.2 ?_
      refine am_s_iload_n rfl dc286_1.1.2.1 ?_
      refine am_s_virtual true dc286_1.1.2.2 rfl (by decide) rfl rfl rfl (am_mth_of rfl rfl ?_)
      refine am_s_iload_n rfl dc211_0.1.1.1 ?_
      refine am_s_bipush am_cb32 dc211_0.1.1.2 ?_
      refine am_s_ic_lt dc211_0.1.2.1 rfl (fun c3 => ?_) (fun c3 => ?_)
      · refine am_s_iconst am_cc0 dc211_1.1 ?_
        refine am_s_zreturn dc211_1.2 rfl (by decide) (am_bkI ?_)
        refine am_s_if_eq dc286_1.2.1.1 rfl (fun _ => ?_) (fun z => absurd z (by decide))
        refine am_s_iconst am_cc0 dc286_1.2.2.2 ?_
        refine am_s_iconst am_cc1 dc286_2.1.1.1 ?_
        refine am_s_iconst am_cc1 dc286_2.1.1.2 ?_
        refine am_s_virtual true dc286_2.1.2.1 rfl (by decide) rfl rfl rfl (am_mth_of rfl rfl ?_)
        refine am_s_iload_n rfl dc189_0.1.1.1 ?_
        refine am_s_if_ne dc189_0.1.1.2 rfl (fun z => absurd z (by decide)) (fun _ => ?_)
        refine am_s_aload_n rfl dc189_0.1.2.1 ?_
        refine am_x_getI (x := 0) dc189_0.1.2.2 rfl rfl (Or.inl rfl) rfl ?_
        refine am_s_if_ne dc189_0.2.1.1 rfl (fun z => absurd z (by decide)) (fun _ => ?_)
        refine am_s_aload_n rfl dc189_0.2.1.2 ?_
        refine am_s_iload_n rfl dc189_0.2.2.1 ?_
        refine am_s_putI dc189_0.2.2.2 rfl rfl rfl rfl ?_
        refine am_s_aload_n rfl dc189_1.1.1.1 ?_
        refine am_s_getR (r := 164) dc189_1.1.1.2 rfl rfl rfl (hp _ _ _ rfl) ?_
        refine am_s_iload_n rfl dc189_1.1.2.1 ?_
        refine am_s_dup2 rfl rfl dc189_1.1.2.2 ?_
        refine am_x_iaload (x := I 164 1) dc189_1.2.1.1 rfl (by decide +kernel) am_cN1 rfl ?_
        refine am_s_iconst am_cc1 dc189_1.2.1.2 ?_
        refine am_s_iadd dc189_1.2.2.1 ?_
        refine am_s_iastore dc189_1.2.2.2 rfl (by decide +kernel) am_cN1 ?_
        refine am_s_aload_n rfl dc189_2.1.1 ?_
        refine am_x_getI (x := 1) dc189_2.1.2.1 rfl rfl (Or.inl rfl) rfl ?_
        refine am_s_if_ne dc189_2.1.2.2 rfl (fun _ => ?_) (fun z => absurd z (by decide))
        refine am_s_iconst am_cc0 dc189_2.2.2.1 ?_
        refine am_s_zreturn dc189_2.2.2.2 rfl (by decide) (am_bkI ?_)
        refine am_s_if_ne dc286_2.1.2.2 rfl (fun z => absurd z (by decide)) (fun _ => ?_)
        refine am_s_iconst am_cc0 dc286_2.2.1.1 ?_
        exact am_s_zreturn dc286_2.2.1.2 rfl (by decide) ((vi_t (vi_f (vi_f q c1) c2) c3))
      · refine am_s_iload_n rfl dc211_0.1.2.2 ?_
        refine am_s_bipush am_cb127 dc211_0.2.1.1 ?_
        refine am_s_ic_ge dc211_0.2.1.2 rfl (fun c4 => ?_) (fun c4 => ?_)
        · refine am_s_iconst am_cc0 dc211_1.1 ?_
          refine am_s_zreturn dc211_1.2 rfl (by decide) (am_bkI ?_)
          refine am_s_if_eq dc286_1.2.1.1 rfl (fun _ => ?_) (fun z => absurd z (by decide))
          refine am_s_iconst am_cc0 dc286_1.2.2.2 ?_
          refine am_s_iconst am_cc1 dc286_2.1.1.1 ?_
          refine am_s_iconst am_cc1 dc286_2.1.1.2 ?_
          refine am_s_virtual true dc286_2.1.2.1 rfl (by decide) rfl rfl rfl (am_mth_of rfl rfl ?_)
          refine am_s_iload_n rfl dc189_0.1.1.1 ?_
          refine am_s_if_ne dc189_0.1.1.2 rfl (fun z => absurd z (by decide)) (fun _ => ?_)
          refine am_s_aload_n rfl dc189_0.1.2.1 ?_
          refine am_x_getI (x := 0) dc189_0.1.2.2 rfl rfl (Or.inl rfl) rfl ?_
          refine am_s_if_ne dc189_0.2.1.1 rfl (fun z => absurd z (by decide)) (fun _ => ?_)
          refine am_s_aload_n rfl dc189_0.2.1.2 ?_
          refine am_s_iload_n rfl dc189_0.2.2.1 ?_
          refine am_s_putI dc189_0.2.2.2 rfl rfl rfl rfl ?_
          refine am_s_aload_n rfl dc189_1.1.1.1 ?_
          refine am_s_getR (r := 164) dc189_1.1.1.2 rfl rfl rfl (hp _ _ _ rfl) ?_
          refine am_s_iload_n rfl dc189_1.1.2.1 ?_
          refine am_s_dup2 rfl rfl dc189_1.1.2.2 ?_
          refine am_x_iaload (x := I 164 1) dc189_1.2.1.1 rfl (by decide +kernel) am_cN1 rfl ?_
          refine am_s_iconst am_cc1 dc189_1.2.1.2 ?_
          refine am_s_iadd dc189_1.2.2.1 ?_
          refine am_s_iastore dc189_1.2.2.2 rfl (by decide +kernel) am_cN1 ?_
          refine am_s_aload_n rfl dc189_2.1.1 ?_
          refine am_x_getI (x := 1) dc189_2.1.2.1 rfl rfl (Or.inl rfl) rfl ?_
          refine am_s_if_ne dc189_2.1.2.2 rfl (fun _ => ?_) (fun z => absurd z (by decide))
          refine am_s_iconst am_cc0 dc189_2.2.2.1 ?_
          refine am_s_zreturn dc189_2.2.2.2 rfl (by decide) (am_bkI ?_)
          refine am_s_if_ne dc286_2.1.2.2 rfl (fun z => absurd z (by decide)) (fun _ => ?_)
          refine am_s_iconst am_cc0 dc286_2.2.1.1 ?_
          exact am_s_zreturn dc286_2.2.1.2 rfl (by decide) ((vi_t (vi_f (vi_f (vi_f q c1) c2) c3) c4))
        · refine am_s_iconst am_cc1 dc211_0.2.2.1 ?_
          refine am_s_goto rfl dc211_0.2.2.2 ?_
          refine am_s_zreturn dc211_1.2 rfl (by decide) (am_bkI ?_)
          refine am_s_if_eq dc286_1.2.1.1 rfl (fun z => absurd z (by decide)) (fun _ => ?_)
          refine am_s_iconst am_cc1 dc286_1.2.1.2 ?_
          refine am_s_goto rfl dc286_1.2.2.1 ?_
          refine am_s_iconst am_cc1 dc286_2.1.1.1 ?_
          refine am_s_iconst am_cc1 dc286_2.1.1.2 ?_
          refine am_s_virtual true dc286_2.1.2.1 rfl (by decide) rfl rfl rfl (am_mth_of rfl rfl ?_)
          refine am_s_iload_n rfl dc189_0.1.1.1 ?_
          refine am_s_if_ne dc189_0.1.1.2 rfl (fun _ => ?_) (fun z => absurd z (by decide))
          refine am_s_aload_n rfl dc189_2.1.1 ?_
          refine am_x_getI (x := 0) dc189_2.1.2.1 rfl rfl (Or.inl rfl) rfl ?_
          refine am_s_if_ne dc189_2.1.2.2 rfl (fun z => absurd z (by decide)) (fun _ => ?_)
          refine am_s_iconst am_cc1 dc189_2.2.1.1 ?_
          refine am_s_goto rfl dc189_2.2.1.2 ?_
          refine am_s_zreturn dc189_2.2.2.2 rfl (by decide) (am_bkI ?_)
          refine am_s_if_ne dc286_2.1.2.2 rfl (fun _ => ?_) (fun z => absurd z (by decide))
          refine am_s_aload_n rfl dc286_2.2.2.1 ?_
          exact am_s_virtual true dc286_2.2.2.2 rfl (by decide) rfl rfl rfl ((vi_f (vi_f (vi_f (vi_f q c1) c2) c3) c4))
theorem v286_43 {sc : Option (Nat × (Nat → Int32))} {d k n : Nat} {P : am_O → Prop} {I : am_I} {J : am_J} {Pf : am_R} (hp : am_PF Pf) {x1 : Int32} {x2 : Int32} (q : (am_in ((3 * x1) + ((x2 - 32) / 32)) 24 = true) ∧ (if (((I 191 (Int32.toNatClampNeg ((3 * x1) + ((x2 - 32) / 32)))) >>> (((x2 - 32) - (x2 - 32) / 32 * 32) &&& 31)) &&& 1) = 1 then (P (.inl (some (.int 1)), (am_SH, I, J, Pf), k, n)) else (P (.inl (some (.int 0)), (am_SH, I, J, Pf), k, n)))) : am_go sc (d + 1) 286 (43, [some (.ref 163), some (.int x1), some (.int x2)], [], (am_SH, I, J, Pf), k, n) P := by
  refine am_s_aload_n rfl dc286_3.1.1 ?_
  refine am_s_iload_n rfl dc286_3.1.2 ?_
  refine am_s_iload_n rfl dc286_3.2.1 ?_
  refine am_s_virtual true dc286_3.2.2.1 rfl (by decide) rfl rfl rfl (am_mth_of rfl rfl ?_)
  refine am_s_iload_n rfl dc284_0.1.1.1 ?_
  refine am_s_bipush am_cb32 dc284_0.1.1.2 ?_
  refine am_s_isub dc284_0.1.2.1 ?_
  refine am_s_istore_n (ls' := [some (.ref 163), some (.int x1), some (.int x2), some (.int (x2 - 32))]) rfl rfl dc284_0.1.2.2 ?_
  refine am_s_aload_n rfl dc284_0.2.1.1 ?_
  refine am_s_getR (r := 191) dc284_0.2.1.2 rfl rfl rfl (hp _ _ _ rfl) ?_
  refine am_s_iconst am_cc3 dc284_0.2.2.1 ?_
  refine am_s_iload_n rfl dc284_0.2.2.2 ?_
  refine am_s_imul dc284_1.1.1.1 ?_
  refine am_s_iload_n rfl dc284_1.1.1.2 ?_
  refine am_s_bipush am_cb32 dc284_1.1.2.1 ?_
  refine am_s_idiv (by decide) dc284_1.1.2.2 ?_
  refine am_s_iadd dc284_1.2.1.1 ?_
  refine am_x_iaload (x := I 191 (Int32.toNatClampNeg ((3 * x1) + ((x2 - 32) / 32)))) dc284_1.2.1.2 rfl (q.1) rfl rfl ?_
  refine am_s_iload_n rfl dc284_1.2.2.1 ?_
  refine am_s_bipush am_cb32 dc284_1.2.2.2 ?_
  refine am_s_irem (by decide) dc284_2.1.1.1 ?_
  refine am_s_ishr dc284_2.1.1.2 ?_
  refine am_s_iconst am_cc1 dc284_2.1.2.1 ?_
  refine am_s_iand dc284_2.1.2.2 ?_
  refine am_s_iconst am_cc1 dc284_2.2.1.1 ?_
  refine am_s_ic_ne dc284_2.2.1.2 rfl (fun c1 => ?_) (fun c1 => ?_)
  · refine am_s_iconst am_cc0 dc284_3.1 ?_
    refine am_s_zreturn dc284_3.2 rfl (by decide) (am_bkI ?_)
    exact am_s_zreturn dc286_3.2.2.2 rfl (by decide) ((vi_f q.2 c1))
  · refine am_s_iconst am_cc1 dc284_2.2.2.1 ?_
    refine am_s_goto rfl dc284_2.2.2.2 ?_
    refine am_s_zreturn dc284_3.2 rfl (by decide) (am_bkI ?_)
    exact am_s_zreturn dc286_3.2.2.2 rfl (by decide) ((vi_t q.2 (Decidable.not_not.mp c1)))
-- sign (I)I
theorem v287_0 {sc : Option (Nat × (Nat → Int32))} {d k n : Nat} {P : am_O → Prop} {I : am_I} {J : am_J} {Pf : am_R} (hp : am_PF Pf) {x1 : Int32} (q : (if x1 < 0 then (P (.inl (some (.int 0)), (am_SH, am_u (am_u (am_u I 163 0 0) 163 0 1) 164 0 ((I 164 0) + 1), J, Pf), k, n)) else (if ((I 180 0) - 1) < x1 then (P (.inl (some (.int 0)), (am_SH, am_u (am_u (am_u I 163 0 0) 163 0 1) 164 0 ((I 164 0) + 1), J, Pf), k, n)) else (am_in (1 + x1) 25 = true) ∧ (P (.inl (some (.int (I 180 (Int32.toNatClampNeg (1 + x1))))), (am_SH, am_u I 163 0 0, J, Pf), k, n))))) : am_go sc (d + 1) 287 (0, [some (.ref 163), some (.int x1)], [], (am_SH, I, J, Pf), k, n) P := by
  refine am_s_aload_n rfl dc287_0.1.1.1 ?_
  refine am_s_iconst am_cc0 dc287_0.1.1.2 ?_
  refine am_s_putI dc287_0.1.2.1 rfl rfl rfl rfl ?_
  refine am_s_aload_n rfl dc287_0.1.2.2 ?_
  refine am_s_iload_n rfl dc287_0.2.1.1 ?_
  refine am_s_iconst am_cc0 dc287_0.2.1.2 ?_
  refine am_s_aload_n rfl dc287_0.2.2.1 ?_
  refine am_s_getR (r := 180) dc287_0.2.2.2 rfl rfl rfl (hp _ _ _ rfl) ?_
  refine am_s_iconst am_cc0 dc287_1.1.1.1 ?_
  refine am_x_iaload (x := I 180 0) dc287_1.1.1.2 rfl (by decide +kernel) am_cN0 rfl ?_
  refine am_s_iconst am_cc1 dc287_1.1.2.1 ?_
  refine am_s_isub dc287_1.1.2.2 ?_
  refine am_s_static dc287_1.2.1.1 rfl rfl rfl (am_mth_of rfl rfl ?_)
  refine am_s_iload_n rfl dc190_0.1.1.1 ?_
  refine am_s_iload_n rfl dc190_0.1.1.2 ?_
  refine am_s_ic_lt dc190_0.1.2.1 rfl (fun c1 => ?_) (fun c1 => ?_)
  · refine am_s_iconst am_cc0 dc190_1.1 ?_
    refine am_s_zreturn dc190_1.2 rfl (by decide) (am_bkI ?_)
    refine am_s_iconst am_cc1 dc287_1.2.1.2 ?_
    refine am_s_iconst am_cc0 dc287_1.2.2.1 ?_
    refine am_s_virtual true dc287_1.2.2.2 rfl (by decide) rfl rfl rfl (am_mth_of rfl rfl ?_)
    refine am_s_iload_n rfl dc189_0.1.1.1 ?_
    refine am_s_if_ne dc189_0.1.1.2 rfl (fun z => absurd z (by decide)) (fun _ => ?_)
    refine am_s_aload_n rfl dc189_0.1.2.1 ?_
    refine am_x_getI (x := 0) dc189_0.1.2.2 rfl rfl (Or.inl rfl) rfl ?_
    refine am_s_if_ne dc189_0.2.1.1 rfl (fun z => absurd z (by decide)) (fun _ => ?_)
    refine am_s_aload_n rfl dc189_0.2.1.2 ?_
    refine am_s_iload_n rfl dc189_0.2.2.1 ?_
    refine am_s_putI dc189_0.2.2.2 rfl rfl rfl rfl ?_
    refine am_s_aload_n rfl dc189_1.1.1.1 ?_
    refine am_s_getR (r := 164) dc189_1.1.1.2 rfl rfl rfl (hp _ _ _ rfl) ?_
    refine am_s_iload_n rfl dc189_1.1.2.1 ?_
    refine am_s_dup2 rfl rfl dc189_1.1.2.2 ?_
    refine am_x_iaload (x := I 164 0) dc189_1.2.1.1 rfl (by decide +kernel) am_cN0 rfl ?_
    refine am_s_iconst am_cc1 dc189_1.2.1.2 ?_
    refine am_s_iadd dc189_1.2.2.1 ?_
    refine am_s_iastore dc189_1.2.2.2 rfl (by decide +kernel) am_cN0 ?_
    refine am_s_aload_n rfl dc189_2.1.1 ?_
    refine am_x_getI (x := 1) dc189_2.1.2.1 rfl rfl (Or.inl rfl) rfl ?_
    refine am_s_if_ne dc189_2.1.2.2 rfl (fun _ => ?_) (fun z => absurd z (by decide))
    refine am_s_iconst am_cc0 dc189_2.2.2.1 ?_
    refine am_s_zreturn dc189_2.2.2.2 rfl (by decide) (am_bkI ?_)
    refine am_s_if_ne dc287_2.1.1.1 rfl (fun z => absurd z (by decide)) (fun _ => ?_)
    refine am_s_iconst am_cc0 dc287_2.1.1.2 ?_
    exact am_s_ireturn dc287_2.1.2.1 rfl ((vi_t q c1))
  · refine am_s_iload_n rfl dc190_0.1.2.2 ?_
    refine am_s_iload_n rfl dc190_0.2.1.1 ?_
    refine am_s_ic_gt dc190_0.2.1.2 rfl (fun c2 => ?_) (fun c2 => ?_)
    · refine am_s_iconst am_cc0 dc190_1.1 ?_
      refine am_s_zreturn dc190_1.2 rfl (by decide) (am_bkI ?_)
      refine am_s_iconst am_cc1 dc287_1.2.1.2 ?_
      refine am_s_iconst am_cc0 dc287_1.2.2.1 ?_
      refine am_s_virtual true dc287_1.2.2.2 rfl (by decide) rfl rfl rfl (am_mth_of rfl rfl ?_)
      refine am_s_iload_n rfl dc189_0.1.1.1 ?_
      refine am_s_if_ne dc189_0.1.1.2 rfl (fun z => absurd z (by decide)) (fun _ => ?_)
      refine am_s_aload_n rfl dc189_0.1.2.1 ?_
      refine am_x_getI (x := 0) dc189_0.1.2.2 rfl rfl (Or.inl rfl) rfl ?_
      refine am_s_if_ne dc189_0.2.1.1 rfl (fun z => absurd z (by decide)) (fun _ => ?_)
      refine am_s_aload_n rfl dc189_0.2.1.2 ?_
      refine am_s_iload_n rfl dc189_0.2.2.1 ?_
      refine am_s_putI dc189_0.2.2.2 rfl rfl rfl rfl ?_
      refine am_s_aload_n rfl dc189_1.1.1.1 ?_
      refine am_s_getR (r := 164) dc189_1.1.1.2 rfl rfl rfl (hp _ _ _ rfl) ?_
      refine am_s_iload_n rfl dc189_1.1.2.1 ?_
      refine am_s_dup2 rfl rfl dc189_1.1.2.2 ?_
      refine am_x_iaload (x := I 164 0) dc189_1.2.1.1 rfl (by decide +kernel) am_cN0 rfl ?_
      refine am_s_iconst am_cc1 dc189_1.2.1.2 ?_
      refine am_s_iadd dc189_1.2.2.1 ?_
      refine am_s_iastore dc189_1.2.2.2 rfl (by decide +kernel) am_cN0 ?_
      refine am_s_aload_n rfl dc189_2.1.1 ?_
      refine am_x_getI (x := 1) dc189_2.1.2.1 rfl rfl (Or.inl rfl) rfl ?_
      refine am_s_if_ne dc189_2.1.2.2 rfl (fun _ => ?_) (fun z => absurd z (by decide))
      refine am_s_iconst am_cc0 dc189_2.2.2.1 ?_
      refine am_s_zreturn dc189_2.2.2.2 rfl (by decide) (am_bkI ?_)
      refine am_s_if_ne dc287_2.1.1.1 rfl (fun z => absurd z (by decide)) (fun _ => ?_)
      refine am_s_iconst am_cc0 dc287_2.1.1.2 ?_
      exact am_s_ireturn dc287_2.1.2.1 rfl ((vi_t (vi_f q c1) c2))
    · refine am_s_iconst am_cc1 dc190_0.2.2.1 ?_
      refine am_s_goto rfl dc190_0.2.2.2 ?_
      refine am_s_zreturn dc190_1.2 rfl (by decide) (am_bkI ?_)
      refine am_s_iconst am_cc1 dc287_1.2.1.2 ?_
      refine am_s_iconst am_cc0 dc287_1.2.2.1 ?_
      refine am_s_virtual true dc287_1.2.2.2 rfl (by decide) rfl rfl rfl (am_mth_of rfl rfl ?_)
      refine am_s_iload_n rfl dc189_0.1.1.1 ?_
      refine am_s_if_ne dc189_0.1.1.2 rfl (fun _ => ?_) (fun z => absurd z (by decide))
      refine am_s_aload_n rfl dc189_2.1.1 ?_
      refine am_x_getI (x := 0) dc189_2.1.2.1 rfl rfl (Or.inl rfl) rfl ?_
      refine am_s_if_ne dc189_2.1.2.2 rfl (fun z => absurd z (by decide)) (fun _ => ?_)
      refine am_s_iconst am_cc1 dc189_2.2.1.1 ?_
      refine am_s_goto rfl dc189_2.2.1.2 ?_
      refine am_s_zreturn dc189_2.2.2.2 rfl (by decide) (am_bkI ?_)
      refine am_s_if_ne dc287_2.1.1.1 rfl (fun _ => ?_) (fun z => absurd z (by decide))
      refine am_s_aload_n rfl dc287_2.1.2.2 ?_
      refine am_s_getR (r := 180) dc287_2.2.1.1 rfl rfl rfl (hp _ _ _ rfl) ?_
      refine am_s_iconst am_cc1 dc287_2.2.1.2 ?_
      refine am_s_iload_n rfl dc287_2.2.2.1 ?_
      refine am_s_iadd dc287_2.2.2.2 ?_
      refine am_x_iaload (x := I 180 (Int32.toNatClampNeg (1 + x1))) dc287_3.1 rfl ((vi_f (vi_f q c1) c2).1) rfl rfl ?_
      exact am_s_ireturn dc287_3.2 rfl ((vi_f (vi_f q c1) c2).2)
-- run (I)I
theorem v288_0 {sc : Option (Nat × (Nat → Int32))} {d k n : Nat} {P : am_O → Prop} {I : am_I} {J : am_J} {Pf : am_R} (hp : am_PF Pf) {x1 : Int32} (q : (if x1 < 0 then (P (.inl (some (.int 0)), (am_SH, am_u (am_u (am_u I 163 0 0) 163 0 1) 164 0 ((I 164 0) + 1), J, Pf), k, n)) else (if (I 180 0) < x1 then (P (.inl (some (.int 0)), (am_SH, am_u (am_u (am_u I 163 0 0) 163 0 1) 164 0 ((I 164 0) + 1), J, Pf), k, n)) else (am_mth (d + 1) 271 [.ref 163] (am_SH, am_u I 163 0 0, J, Pf) (am_af sc (d + 1) 288 28 [some (.ref 163), some (.int x1)] [.ref 163] [] (am_SH, am_u I 163 0 0, J, Pf) k n true P))))) : am_go sc (d + 1) 288 (0, [some (.ref 163), some (.int x1)], [], (am_SH, I, J, Pf), k, n) P := by
  refine am_s_aload_n rfl dc288_0.1.1.1 ?_
  refine am_s_iconst am_cc0 dc288_0.1.1.2 ?_
  refine am_s_putI dc288_0.1.2.1 rfl rfl rfl rfl ?_
  refine am_s_aload_n rfl dc288_0.1.2.2 ?_
  refine am_s_iload_n rfl dc288_0.2.1.1 ?_
  refine am_s_iconst am_cc0 dc288_0.2.1.2 ?_
  refine am_s_aload_n rfl dc288_0.2.2.1 ?_
  refine am_s_getR (r := 180) dc288_0.2.2.2 rfl rfl rfl (hp _ _ _ rfl) ?_
  refine am_s_iconst am_cc0 dc288_1.1.1.1 ?_
  refine am_x_iaload (x := I 180 0) dc288_1.1.1.2 rfl (by decide +kernel) am_cN0 rfl ?_
  refine am_s_static dc288_1.1.2.1 rfl rfl rfl (am_mth_of rfl rfl ?_)
  refine am_s_iload_n rfl dc190_0.1.1.1 ?_
  refine am_s_iload_n rfl dc190_0.1.1.2 ?_
  refine am_s_ic_lt dc190_0.1.2.1 rfl (fun c1 => ?_) (fun c1 => ?_)
  · refine am_s_iconst am_cc0 dc190_1.1 ?_
    refine am_s_zreturn dc190_1.2 rfl (by decide) (am_bkI ?_)
    refine am_s_iconst am_cc1 dc288_1.1.2.2 ?_
    refine am_s_iconst am_cc0 dc288_1.2.1.1 ?_
    refine am_s_virtual true dc288_1.2.1.2 rfl (by decide) rfl rfl rfl (am_mth_of rfl rfl ?_)
    refine am_s_iload_n rfl dc189_0.1.1.1 ?_
    refine am_s_if_ne dc189_0.1.1.2 rfl (fun z => absurd z (by decide)) (fun _ => ?_)
    refine am_s_aload_n rfl dc189_0.1.2.1 ?_
    refine am_x_getI (x := 0) dc189_0.1.2.2 rfl rfl (Or.inl rfl) rfl ?_
    refine am_s_if_ne dc189_0.2.1.1 rfl (fun z => absurd z (by decide)) (fun _ => ?_)
    refine am_s_aload_n rfl dc189_0.2.1.2 ?_
    refine am_s_iload_n rfl dc189_0.2.2.1 ?_
    refine am_s_putI dc189_0.2.2.2 rfl rfl rfl rfl ?_
    refine am_s_aload_n rfl dc189_1.1.1.1 ?_
    refine am_s_getR (r := 164) dc189_1.1.1.2 rfl rfl rfl (hp _ _ _ rfl) ?_
    refine am_s_iload_n rfl dc189_1.1.2.1 ?_
    refine am_s_dup2 rfl rfl dc189_1.1.2.2 ?_
    refine am_x_iaload (x := I 164 0) dc189_1.2.1.1 rfl (by decide +kernel) am_cN0 rfl ?_
    refine am_s_iconst am_cc1 dc189_1.2.1.2 ?_
    refine am_s_iadd dc189_1.2.2.1 ?_
    refine am_s_iastore dc189_1.2.2.2 rfl (by decide +kernel) am_cN0 ?_
    refine am_s_aload_n rfl dc189_2.1.1 ?_
    refine am_x_getI (x := 1) dc189_2.1.2.1 rfl rfl (Or.inl rfl) rfl ?_
    refine am_s_if_ne dc189_2.1.2.2 rfl (fun _ => ?_) (fun z => absurd z (by decide))
    refine am_s_iconst am_cc0 dc189_2.2.2.1 ?_
    refine am_s_zreturn dc189_2.2.2.2 rfl (by decide) (am_bkI ?_)
    refine am_s_if_ne dc288_1.2.2.1 rfl (fun z => absurd z (by decide)) (fun _ => ?_)
    refine am_s_iconst am_cc0 dc288_1.2.2.2 ?_
    exact am_s_ireturn dc288_2.1.1.1 rfl ((vi_t q c1))
  · refine am_s_iload_n rfl dc190_0.1.2.2 ?_
    refine am_s_iload_n rfl dc190_0.2.1.1 ?_
    refine am_s_ic_gt dc190_0.2.1.2 rfl (fun c2 => ?_) (fun c2 => ?_)
    · refine am_s_iconst am_cc0 dc190_1.1 ?_
      refine am_s_zreturn dc190_1.2 rfl (by decide) (am_bkI ?_)
      refine am_s_iconst am_cc1 dc288_1.1.2.2 ?_
      refine am_s_iconst am_cc0 dc288_1.2.1.1 ?_
      refine am_s_virtual true dc288_1.2.1.2 rfl (by decide) rfl rfl rfl (am_mth_of rfl rfl ?_)
      refine am_s_iload_n rfl dc189_0.1.1.1 ?_
      refine am_s_if_ne dc189_0.1.1.2 rfl (fun z => absurd z (by decide)) (fun _ => ?_)
      refine am_s_aload_n rfl dc189_0.1.2.1 ?_
      refine am_x_getI (x := 0) dc189_0.1.2.2 rfl rfl (Or.inl rfl) rfl ?_
      refine am_s_if_ne dc189_0.2.1.1 rfl (fun z => absurd z (by decide)) (fun _ => ?_)
      refine am_s_aload_n rfl dc189_0.2.1.2 ?_
      refine am_s_iload_n rfl dc189_0.2.2.1 ?_
      refine am_s_putI dc189_0.2.2.2 rfl rfl rfl rfl ?_
      refine am_s_aload_n rfl dc189_1.1.1.1 ?_
      refine am_s_getR (r := 164) dc189_1.1.1.2 rfl rfl rfl (hp _ _ _ rfl) ?_
      refine am_s_iload_n rfl dc189_1.1.2.1 ?_
      refine am_s_dup2 rfl rfl dc189_1.1.2.2 ?_
      refine am_x_iaload (x := I 164 0) dc189_1.2.1.1 rfl (by decide +kernel) am_cN0 rfl ?_
      refine am_s_iconst am_cc1 dc189_1.2.1.2 ?_
      refine am_s_iadd dc189_1.2.2.1 ?_
      refine am_s_iastore dc189_1.2.2.2 rfl (by decide +kernel) am_cN0 ?_
      refine am_s_aload_n rfl dc189_2.1.1 ?_
      refine am_x_getI (x := 1) dc189_2.1.2.1 rfl rfl (Or.inl rfl) rfl ?_
      refine am_s_if_ne dc189_2.1.2.2 rfl (fun _ => ?_) (fun z => absurd z (by decide))
      refine am_s_iconst am_cc0 dc189_2.2.2.1 ?_
      refine am_s_zreturn dc189_2.2.2.2 rfl (by decide) (am_bkI ?_)
      refine am_s_if_ne dc288_1.2.2.1 rfl (fun z => absurd z (by decide)) (fun _ => ?_)
      refine am_s_iconst am_cc0 dc288_1.2.2.2 ?_
      exact am_s_ireturn dc288_2.1.1.1 rfl ((vi_t (vi_f q c1) c2))
    · refine am_s_iconst am_cc1 dc190_0.2.2.1 ?_
      refine am_s_goto rfl dc190_0.2.2.2 ?_
      refine am_s_zreturn dc190_1.2 rfl (by decide) (am_bkI ?_)
      refine am_s_iconst am_cc1 dc288_1.1.2.2 ?_
      refine am_s_iconst am_cc0 dc288_1.2.1.1 ?_
      refine am_s_virtual true dc288_1.2.1.2 rfl (by decide) rfl rfl rfl (am_mth_of rfl rfl ?_)
      refine am_s_iload_n rfl dc189_0.1.1.1 ?_
      refine am_s_if_ne dc189_0.1.1.2 rfl (fun _ => ?_) (fun z => absurd z (by decide))
      refine am_s_aload_n rfl dc189_2.1.1 ?_
      refine am_x_getI (x := 0) dc189_2.1.2.1 rfl rfl (Or.inl rfl) rfl ?_
      refine am_s_if_ne dc189_2.1.2.2 rfl (fun z => absurd z (by decide)) (fun _ => ?_)
      refine am_s_iconst am_cc1 dc189_2.2.1.1 ?_
      refine am_s_goto rfl dc189_2.2.1.2 ?_
      refine am_s_zreturn dc189_2.2.2.2 rfl (by decide) (am_bkI ?_)
      refine am_s_if_ne dc288_1.2.2.1 rfl (fun _ => ?_) (fun z => absurd z (by decide))
      refine am_s_aload_n rfl dc288_2.1.1.2 ?_
      exact am_s_virtual true dc288_2.1.2.1 rfl (by decide) rfl rfl rfl ((vi_f (vi_f q c1) c2))
theorem v288_31 {sc : Option (Nat × (Nat → Int32))} {d k n : Nat} {P : am_O → Prop} {I : am_I} {J : am_J} {Pf : am_R} (hp : am_PF Pf) {x1 : Int32} (q : (am_mth d 258 [.ref 163, .int 0, .int x1] (am_SH, I, J, Pf) (am_af sc d 288 34 [some (.ref 163), some (.int x1)] [.int x1, .int 0, .ref 163] [] (am_SH, I, J, Pf) k n true P))) : am_go sc d 288 (31, [some (.ref 163), some (.int x1)], [], (am_SH, I, J, Pf), k, n) P := by
  refine am_s_aload_n rfl dc288_2.1.2.2 ?_
  refine am_s_iconst am_cc0 dc288_2.2.1.1 ?_
  refine am_s_iload_n rfl dc288_2.2.1.2 ?_
  exact am_s_virtual true dc288_2.2.2.1 rfl (by decide) rfl rfl rfl (q)
theorem v288_37 {sc : Option (Nat × (Nat → Int32))} {d k n : Nat} {P : am_O → Prop} {I : am_I} {J : am_J} {Pf : am_R} (hp : am_PF Pf) {l0 : Option Value} {l1 : Option Value} {s0 : Int32} (q : (P (.inl (some (.int s0)), (am_SH, I, J, Pf), k, n))) : am_go sc d 288 (37, [l0, l1], [.int s0], (am_SH, I, J, Pf), k, n) P := by
  exact am_s_ireturn dc288_2.2.2.2 rfl (q)
-- isPiece (III)Z
theorem v289_0 {sc : Option (Nat × (Nat → Int32))} {d k n : Nat} {P : am_O → Prop} {I : am_I} {J : am_J} {Pf : am_R} (hp : am_PF Pf) {x1 : Int32} {x2 : Int32} {x3 : Int32} (q : (if x1 < 0 then (if (I 163 0) = 0 then (P (.inl (some (.int 0)), (am_SH, am_u (am_u I 163 0 1) 164 1 ((I 164 1) + 1), J, Pf), k, n)) else (P (.inl (some (.int 0)), (am_SH, I, J, Pf), k, n))) else (if 7 < x1 then (if (I 163 0) = 0 then (P (.inl (some (.int 0)), (am_SH, am_u (am_u I 163 0 1) 164 1 ((I 164 1) + 1), J, Pf), k, n)) else (P (.inl (some (.int 0)), (am_SH, I, J, Pf), k, n))) else (if x2 < 0 then (if (I 163 0) = 0 then (P (.inl (some (.int 0)), (am_SH, am_u (am_u I 163 0 1) 164 1 ((I 164 1) + 1), J, Pf), k, n)) else (P (.inl (some (.int 0)), (am_SH, I, J, Pf), k, n))) else (if (I 180 0) < x2 then (if (I 163 0) = 0 then (P (.inl (some (.int 0)), (am_SH, am_u (am_u I 163 0 1) 164 1 ((I 164 1) + 1), J, Pf), k, n)) else (P (.inl (some (.int 0)), (am_SH, I, J, Pf), k, n))) else (if x3 < x2 then (if (I 163 0) = 0 then (P (.inl (some (.int 0)), (am_SH, am_u (am_u I 163 0 1) 164 1 ((I 164 1) + 1), J, Pf), k, n)) else (P (.inl (some (.int 0)), (am_SH, I, J, Pf), k, n))) else (if (I 180 0) < x3 then (if (I 163 0) = 0 then (P (.inl (some (.int 0)), (am_SH, am_u (am_u I 163 0 1) 164 1 ((I 164 1) + 1), J, Pf), k, n)) else (P (.inl (some (.int 0)), (am_SH, I, J, Pf), k, n))) else (if (I 163 0) = 0 then (P (.inl (some (.int 1)), (am_SH, I, J, Pf), k, n)) else (P (.inl (some (.int 0)), (am_SH, I, J, Pf), k, n)))))))))) : am_go sc (d + 1) 289 (0, [some (.ref 163), some (.int x1), some (.int x2), some (.int x3)], [], (am_SH, I, J, Pf), k, n) P := by
  refine am_s_aload_n rfl dc289_0.1.1.1 ?_
  refine am_s_iload_n rfl dc289_0.1.1.2 ?_
  refine am_s_iconst am_cc0 dc289_0.1.2.1 ?_
  refine am_s_bipush am_cb7 dc289_0.1.2.2 ?_
  refine am_s_static dc289_0.2.1.1 rfl rfl rfl (am_mth_of rfl rfl ?_)
  refine am_s_iload_n rfl dc190_0.1.1.1 ?_
  refine am_s_iload_n rfl dc190_0.1.1.2 ?_
  refine am_s_ic_lt dc190_0.1.2.1 rfl (fun c1 => ?_) (fun c1 => ?_)
  · refine am_s_iconst am_cc0 dc190_1.1 ?_
    refine am_s_zreturn dc190_1.2 rfl (by decide) (am_bkI ?_)
    refine am_s_if_eq dc289_0.2.1.2 rfl (fun _ => ?_) (fun z => absurd z (by decide))
    refine am_s_iconst am_cc0 dc289_3.1.1 ?_
    refine am_s_iconst am_cc1 dc289_3.1.2 ?_
    refine am_s_iconst am_cc1 dc289_3.2.1 ?_
    refine am_s_virtual true dc289_3.2.2.1 rfl (by decide) rfl rfl rfl (am_mth_of rfl rfl ?_)
    refine am_s_iload_n rfl dc189_0.1.1.1 ?_
    refine am_s_if_ne dc189_0.1.1.2 rfl (fun z => absurd z (by decide)) (fun _ => ?_)
    refine am_s_aload_n rfl dc189_0.1.2.1 ?_
    refine am_x_getI (x := I 163 0) dc189_0.1.2.2 rfl rfl (Or.inl rfl) rfl ?_
    refine am_s_if_ne dc189_0.2.1.1 rfl (fun c2 => ?_) (fun c2 => ?_)
    · refine am_s_aload_n rfl dc189_2.1.1 ?_
      refine am_x_getI (x := I 163 0) dc189_2.1.2.1 rfl rfl (Or.inl rfl) rfl ?_
      refine am_s_if_ne dc189_2.1.2.2 rfl (fun _ => ?_) (fun z => absurd c2 z)
      refine am_s_iconst am_cc0 dc189_2.2.2.1 ?_
      refine am_s_zreturn dc189_2.2.2.2 rfl (by decide) (am_bkI ?_)
      exact am_s_zreturn dc289_3.2.2.2 rfl (by decide) ((vi_f (vi_t q c1) c2))
    · refine am_s_aload_n rfl dc189_0.2.1.2 ?_
      refine am_s_iload_n rfl dc189_0.2.2.1 ?_
      refine am_s_putI dc189_0.2.2.2 rfl rfl rfl rfl ?_
      refine am_s_aload_n rfl dc189_1.1.1.1 ?_
      refine am_s_getR (r := 164) dc189_1.1.1.2 rfl rfl rfl (hp _ _ _ rfl) ?_
      refine am_s_iload_n rfl dc189_1.1.2.1 ?_
      refine am_s_dup2 rfl rfl dc189_1.1.2.2 ?_
      refine am_x_iaload (x := I 164 1) dc189_1.2.1.1 rfl (by decide +kernel) am_cN1 rfl ?_
      refine am_s_iconst am_cc1 dc189_1.2.1.2 ?_
      refine am_s_iadd dc189_1.2.2.1 ?_
      refine am_s_iastore dc189_1.2.2.2 rfl (by decide +kernel) am_cN1 ?_
      refine am_s_aload_n rfl dc189_2.1.1 ?_
      refine am_x_getI (x := 1) dc189_2.1.2.1 rfl rfl (Or.inl rfl) rfl ?_
      refine am_s_if_ne dc189_2.1.2.2 rfl (fun _ => ?_) (fun z => absurd z (by decide))
      refine am_s_iconst am_cc0 dc189_2.2.2.1 ?_
      refine am_s_zreturn dc189_2.2.2.2 rfl (by decide) (am_bkI ?_)
      exact am_s_zreturn dc289_3.2.2.2 rfl (by decide) ((vi_t (vi_t q c1) (Decidable.not_not.mp c2)))
  · refine am_s_iload_n rfl dc190_0.1.2.2 ?_
    refine am_s_iload_n rfl dc190_0.2.1.1 ?_
    refine am_s_ic_gt dc190_0.2.1.2 rfl (fun c2 => ?_) (fun c2 => ?_)
    · refine am_s_iconst am_cc0 dc190_1.1 ?_
      refine am_s_zreturn dc190_1.2 rfl (by decide) (am_bkI ?_)
      refine am_s_if_eq dc289_0.2.1.2 rfl (fun _ => ?_) (fun z => absurd z (by decide))
      refine am_s_iconst am_cc0 dc289_3.1.1 ?_
      refine am_s_iconst am_cc1 dc289_3.1.2 ?_
      refine am_s_iconst am_cc1 dc289_3.2.1 ?_
      refine am_s_virtual true dc289_3.2.2.1 rfl (by decide) rfl rfl rfl (am_mth_of rfl rfl ?_)
      refine am_s_iload_n rfl dc189_0.1.1.1 ?_
      refine am_s_if_ne dc189_0.1.1.2 rfl (fun z => absurd z (by decide)) (fun _ => ?_)
      refine am_s_aload_n rfl dc189_0.1.2.1 ?_
      refine am_x_getI (x := I 163 0) dc189_0.1.2.2 rfl rfl (Or.inl rfl) rfl ?_
      refine am_s_if_ne dc189_0.2.1.1 rfl (fun c3 => ?_) (fun c3 => ?_)
      · refine am_s_aload_n rfl dc189_2.1.1 ?_
        refine am_x_getI (x := I 163 0) dc189_2.1.2.1 rfl rfl (Or.inl rfl) rfl ?_
        refine am_s_if_ne dc189_2.1.2.2 rfl (fun _ => ?_) (fun z => absurd c3 z)
        refine am_s_iconst am_cc0 dc189_2.2.2.1 ?_
        refine am_s_zreturn dc189_2.2.2.2 rfl (by decide) (am_bkI ?_)
        exact am_s_zreturn dc289_3.2.2.2 rfl (by decide) ((vi_f (vi_t (vi_f q c1) c2) c3))
      · refine am_s_aload_n rfl dc189_0.2.1.2 ?_
        refine am_s_iload_n rfl dc189_0.2.2.1 ?_
        refine am_s_putI dc189_0.2.2.2 rfl rfl rfl rfl ?_
        refine am_s_aload_n rfl dc189_1.1.1.1 ?_
        refine am_s_getR (r := 164) dc189_1.1.1.2 rfl rfl rfl (hp _ _ _ rfl) ?_
        refine am_s_iload_n rfl dc189_1.1.2.1 ?_
        refine am_s_dup2 rfl rfl dc189_1.1.2.2 ?_
        refine am_x_iaload (x := I 164 1) dc189_1.2.1.1 rfl (by decide +kernel) am_cN1 rfl ?_
        refine am_s_iconst am_cc1 dc189_1.2.1.2 ?_
        refine am_s_iadd dc189_1.2.2.1 ?_
        refine am_s_iastore dc189_1.2.2.2 rfl (by decide +kernel) am_cN1 ?_
        refine am_s_aload_n rfl dc189_2.1.1 ?_
        refine am_x_getI (x := 1) dc189_2.1.2.1 rfl rfl (Or.inl rfl) rfl ?_
        refine am_s_if_ne dc189_2.1.2.2 rfl (fun _ => ?_) (fun z => absurd z (by decide))
        refine am_s_iconst am_cc0 dc189_2.2.2.1 ?_
        refine am_s_zreturn dc189_2.2.2.2 rfl (by decide) (am_bkI ?_)
        exact am_s_zreturn dc289_3.2.2.2 rfl (by decide) ((vi_t (vi_t (vi_f q c1) c2) (Decidable.not_not.mp c3)))
    · refine am_s_iconst am_cc1 dc190_0.2.2.1 ?_
      refine am_s_goto rfl dc190_0.2.2.2 ?_
      refine am_s_zreturn dc190_1.2 rfl (by decide) (am_bkI ?_)
      refine am_s_if_eq dc289_0.2.1.2 rfl (fun z => absurd z (by decide)) (fun _ => ?_)
      refine am_s_iload_n rfl dc289_0.2.2.1 ?_
      refine am_s_iconst am_cc0 dc289_0.2.2.2 ?_
      refine am_s_aload_n rfl dc289_1.1.1.1 ?_
      refine am_s_getR (r := 180) dc289_1.1.1.2 rfl rfl rfl (hp _ _ _ rfl) ?_
      refine am_s_iconst am_cc0 dc289_1.1.2.1 ?_
      refine am_x_iaload (x := I 180 0) dc289_1.1.2.2 rfl (by decide +kernel) am_cN0 rfl ?_
      refine am_s_static dc289_1.2.1.1 rfl rfl rfl (am_mth_of rfl rfl ?_)
      refine am_s_iload_n rfl dc190_0.1.1.1 ?_
      refine am_s_iload_n rfl dc190_0.1.1.2 ?_
      refine am_s_ic_lt dc190_0.1.2.1 rfl (fun c3 => ?_) (fun c3 => ?_)
      · refine am_s_iconst am_cc0 dc190_1.1 ?_
        refine am_s_zreturn dc190_1.2 rfl (by decide) (am_bkI ?_)
        refine am_s_if_eq dc289_1.2.1.2 rfl (fun _ => ?_) (fun z => absurd z (by decide))
        refine am_s_iconst am_cc0 dc289_3.1.1 ?_
        refine am_s_iconst am_cc1 dc289_3.1.2 ?_
        refine am_s_iconst am_cc1 dc289_3.2.1 ?_
        refine am_s_virtual true dc289_3.2.2.1 rfl (by decide) rfl rfl rfl (am_mth_of rfl rfl ?_)
        refine am_s_iload_n rfl dc189_0.1.1.1 ?_
        refine am_s_if_ne dc189_0.1.1.2 rfl (fun z => absurd z (by decide)) (fun _ => ?_)
        refine am_s_aload_n rfl dc189_0.1.2.1 ?_
        refine am_x_getI (x := I 163 0) dc189_0.1.2.2 rfl rfl (Or.inl rfl) rfl ?_
        refine am_s_if_ne dc189_0.2.1.1 rfl (fun c4 => ?_) (fun c4 => ?_)
        · refine am_s_aload_n rfl dc189_2.1.1 ?_
          refine am_x_getI (x := I 163 0) dc189_2.1.2.1 rfl rfl (Or.inl rfl) rfl ?_
          refine am_s_if_ne dc189_2.1.2.2 rfl (fun _ => ?_) (fun z => absurd c4 z)
          refine am_s_iconst am_cc0 dc189_2.2.2.1 ?_
          refine am_s_zreturn dc189_2.2.2.2 rfl (by decide) (am_bkI ?_)
          exact am_s_zreturn dc289_3.2.2.2 rfl (by decide) ((vi_f (vi_t (vi_f (vi_f q c1) c2) c3) c4))
        · refine am_s_aload_n rfl dc189_0.2.1.2 ?_
          refine am_s_iload_n rfl dc189_0.2.2.1 ?_
          refine am_s_putI dc189_0.2.2.2 rfl rfl rfl rfl ?_
          refine am_s_aload_n rfl dc189_1.1.1.1 ?_
          refine am_s_getR (r := 164) dc189_1.1.1.2 rfl rfl rfl (hp _ _ _ rfl) ?_
          refine am_s_iload_n rfl dc189_1.1.2.1 ?_
          refine am_s_dup2 rfl rfl dc189_1.1.2.2 ?_
          refine am_x_iaload (x := I 164 1) dc189_1.2.1.1 rfl (by decide +kernel) am_cN1 rfl ?_
          refine am_s_iconst am_cc1 dc189_1.2.1.2 ?_
          refine am_s_iadd dc189_1.2.2.1 ?_
          refine am_s_iastore dc189_1.2.2.2 rfl (by decide +kernel) am_cN1 ?_
          refine am_s_aload_n rfl dc189_2.1.1 ?_
          refine am_x_getI (x := 1) dc189_2.1.2.1 rfl rfl (Or.inl rfl) rfl ?_
          refine am_s_if_ne dc189_2.1.2.2 rfl (fun _ => ?_) (fun z => absurd z (by decide))
          refine am_s_iconst am_cc0 dc189_2.2.2.1 ?_
          refine am_s_zreturn dc189_2.2.2.2 rfl (by decide) (am_bkI ?_)
          exact am_s_zreturn dc289_3.2.2.2 rfl (by decide) ((vi_t (vi_t (vi_f (vi_f q c1) c2) c3) (Decidable.not_not.mp c4)))
      · refine am_s_iload_n rfl dc190_0.1.2.2 ?_
        refine am_s_iload_n rfl dc190_0.2.1.1 ?_
        refine am_s_ic_gt dc190_0.2.1.2 rfl (fun c4 => ?_) (fun c4 => ?_)
        · refine am_s_iconst am_cc0 dc190_1.1 ?_
          refine am_s_zreturn dc190_1.2 rfl (by decide) (am_bkI ?_)
          refine am_s_if_eq dc289_1.2.1.2 rfl (fun _ => ?_) (fun z => absurd z (by decide))
          refine am_s_iconst am_cc0 dc289_3.1.1 ?_
          refine am_s_iconst am_cc1 dc289_3.1.2 ?_
          refine am_s_iconst am_cc1 dc289_3.2.1 ?_
          refine am_s_virtual true dc289_3.2.2.1 rfl (by decide) rfl rfl rfl (am_mth_of rfl rfl ?_)
          refine am_s_iload_n rfl dc189_0.1.1.1 ?_
          refine am_s_if_ne dc189_0.1.1.2 rfl (fun z => absurd z (by decide)) (fun _ => ?_)
          refine am_s_aload_n rfl dc189_0.1.2.1 ?_
          refine am_x_getI (x := I 163 0) dc189_0.1.2.2 rfl rfl (Or.inl rfl) rfl ?_
          refine am_s_if_ne dc189_0.2.1.1 rfl (fun c5 => ?_) (fun c5 => ?_)
          · refine am_s_aload_n rfl dc189_2.1.1 ?_
            refine am_x_getI (x := I 163 0) dc189_2.1.2.1 rfl rfl (Or.inl rfl) rfl ?_
            refine am_s_if_ne dc189_2.1.2.2 rfl (fun _ => ?_) (fun z => absurd c5 z)
            refine am_s_iconst am_cc0 dc189_2.2.2.1 ?_
            refine am_s_zreturn dc189_2.2.2.2 rfl (by decide) (am_bkI ?_)
            exact am_s_zreturn dc289_3.2.2.2 rfl (by decide) ((vi_f (vi_t (vi_f (vi_f (vi_f q c1) c2) c3) c4) c5))
          · refine am_s_aload_n rfl dc189_0.2.1.2 ?_
            refine am_s_iload_n rfl dc189_0.2.2.1 ?_
            refine am_s_putI dc189_0.2.2.2 rfl rfl rfl rfl ?_
            refine am_s_aload_n rfl dc189_1.1.1.1 ?_
            refine am_s_getR (r := 164) dc189_1.1.1.2 rfl rfl rfl (hp _ _ _ rfl) ?_
            refine am_s_iload_n rfl dc189_1.1.2.1 ?_
            refine am_s_dup2 rfl rfl dc189_1.1.2.2 ?_
            refine am_x_iaload (x := I 164 1) dc189_1.2.1.1 rfl (by decide +kernel) am_cN1 rfl ?_
            refine am_s_iconst am_cc1 dc189_1.2.1.2 ?_
            refine am_s_iadd dc189_1.2.2.1 ?_
            refine am_s_iastore dc189_1.2.2.2 rfl (by decide +kernel) am_cN1 ?_
            refine am_s_aload_n rfl dc189_2.1.1 ?_
            refine am_x_getI (x := 1) dc189_2.1.2.1 rfl rfl (Or.inl rfl) rfl ?_
            refine am_s_if_ne dc189_2.1.2.2 rfl (fun _ => ?_) (fun z => absurd z (by decide))
            refine am_s_iconst am_cc0 dc189_2.2.2.1 ?_
            refine am_s_zreturn dc189_2.2.2.2 rfl (by decide) (am_bkI ?_)
            exact am_s_zreturn dc289_3.2.2.2 rfl (by decide) ((vi_t (vi_t (vi_f (vi_f (vi_f q c1) c2) c3) c4) (Decidable.not_not.mp c5)))
        · refine am_s_iconst am_cc1 dc190_0.2.2.1 ?_
          refine am_s_goto rfl dc190_0.2.2.2 ?_
          refine am_s_zreturn dc190_1.2 rfl (by decide) (am_bkI ?_)
          refine am_s_if_eq dc289_1.2.1.2 rfl (fun z => absurd z (by decide)) (fun _ => ?_)
          refine am_s_iload_n rfl dc289_1.2.2.1 ?_
          refine am_s_iload_n rfl dc289_1.2.2.2 ?_
          refine am_s_aload_n rfl dc289_2.1.1.1 ?_
          refine am_s_getR (r := 180) dc289_2.1.1.2 rfl rfl rfl (hp _ _ _ rfl) ?_
          refine am_s_iconst am_cc0 dc289_2.1.2.1 ?_
          refine am_x_iaload (x := I 180 0) dc289_2.1.2.2 rfl (by decide +kernel) am_cN0 rfl ?_
          refine am_s_static dc289_2.2.1.1 rfl rfl rfl (am_mth_of rfl rfl ?_)
          refine am_s_iload_n rfl dc190_0.1.1.1 ?_
          refine am_s_iload_n rfl dc190_0.1.1.2 ?_
          refine am_s_ic_lt dc190_0.1.2.1 rfl (fun c5 => ?_) (fun c5 => ?_)
          · refine am_s_iconst am_cc0 dc190_1.1 ?_
            refine am_s_zreturn dc190_1.2 rfl (by decide) (am_bkI ?_)
            refine am_s_if_eq dc289_2.2.1.2 rfl (fun _ => ?_) (fun z => absurd z (by decide))
            refine am_s_iconst am_cc0 dc289_3.1.1 ?_
            refine am_s_iconst am_cc1 dc289_3.1.2 ?_
            refine am_s_iconst am_cc1 dc289_3.2.1 ?_
            refine am_s_virtual true dc289_3.2.2.1 rfl (by decide) rfl rfl rfl (am_mth_of rfl rfl ?_)
            refine am_s_iload_n rfl dc189_0.1.1.1 ?_
            refine am_s_if_ne dc189_0.1.1.2 rfl (fun z => absurd z (by decide)) (fun _ => ?_)
            refine am_s_aload_n rfl dc189_0.1.2.1 ?_
            refine am_x_getI (x := I 163 0) dc189_0.1.2.2 rfl rfl (Or.inl rfl) rfl ?_
            refine am_s_if_ne dc189_0.2.1.1 rfl (fun c6 => ?_) (fun c6 => ?_)
            · refine am_s_aload_n rfl dc189_2.1.1 ?_
              refine am_x_getI (x := I 163 0) dc189_2.1.2.1 rfl rfl (Or.inl rfl) rfl ?_
              refine am_s_if_ne dc189_2.1.2.2 rfl (fun _ => ?_) (fun z => absurd c6 z)
              refine am_s_iconst am_cc0 dc189_2.2.2.1 ?_
              refine am_s_zreturn dc189_2.2.2.2 rfl (by decide) (am_bkI ?_)
              exact am_s_zreturn dc289_3.2.2.2 rfl (by decide) ((vi_f (vi_t (vi_f (vi_f (vi_f (vi_f q c1) c2) c3) c4) c5) c6))
            · refine am_s_aload_n rfl dc189_0.2.1.2 ?_
              refine am_s_iload_n rfl dc189_0.2.2.1 ?_
              refine am_s_putI dc189_0.2.2.2 rfl rfl rfl rfl ?_
              refine am_s_aload_n rfl dc189_1.1.1.1 ?_
              refine am_s_getR (r := 164) dc189_1.1.1.2 rfl rfl rfl (hp _ _ _ rfl) ?_
              refine am_s_iload_n rfl dc189_1.1.2.1 ?_
              refine am_s_dup2 rfl rfl dc189_1.1.2.2 ?_
              refine am_x_iaload (x := I 164 1) dc189_1.2.1.1 rfl (by decide +kernel) am_cN1 rfl ?_
              refine am_s_iconst am_cc1 dc189_1.2.1.2 ?_
              refine am_s_iadd dc189_1.2.2.1 ?_
              refine am_s_iastore dc189_1.2.2.2 rfl (by decide +kernel) am_cN1 ?_
              refine am_s_aload_n rfl dc189_2.1.1 ?_
              refine am_x_getI (x := 1) dc189_2.1.2.1 rfl rfl (Or.inl rfl) rfl ?_
              refine am_s_if_ne dc189_2.1.2.2 rfl (fun _ => ?_) (fun z => absurd z (by decide))
              refine am_s_iconst am_cc0 dc189_2.2.2.1 ?_
              refine am_s_zreturn dc189_2.2.2.2 rfl (by decide) (am_bkI ?_)
              exact am_s_zreturn dc289_3.2.2.2 rfl (by decide) ((vi_t (vi_t (vi_f (vi_f (vi_f (vi_f q c1) c2) c3) c4) c5) (Decidable.not_not.mp c6)))
          · refine am_s_iload_n rfl dc190_0.1.2.2 ?_
            refine am_s_iload_n rfl dc190_0.2.1.1 ?_
            refine am_s_ic_gt dc190_0.2.1.2 rfl (fun c6 => ?_) (fun c6 => ?_)
            · refine am_s_iconst am_cc0 dc190_1.1 ?_
              refine am_s_zreturn dc190_1.2 rfl (by decide) (am_bkI ?_)
              refine am_s_if_eq dc289_2.2.1.2 rfl (fun _ => ?_) (fun z => absurd z (by decide))
              refine am_s_iconst am_cc0 dc289_3.1.1 ?_
              refine am_s_iconst am_cc1 dc289_3.1.2 ?_
              refine am_s_iconst am_cc1 dc289_3.2.1 ?_
              refine am_s_virtual true dc289_3.2.2.1 rfl (by decide) rfl rfl rfl (am_mth_of rfl rfl ?_)
              refine am_s_iload_n rfl dc189_0.1.1.1 ?_
              refine am_s_if_ne dc189_0.1.1.2 rfl (fun z => absurd z (by decide)) (fun _ => ?_)
              refine am_s_aload_n rfl dc189_0.1.2.1 ?_
              refine am_x_getI (x := I 163 0) dc189_0.1.2.2 rfl rfl (Or.inl rfl) rfl ?_
              refine am_s_if_ne dc189_0.2.1.1 rfl (fun c7 => ?_) (fun c7 => ?_)
              · refine am_s_aload_n rfl dc189_2.1.1 ?_
                refine am_x_getI (x := I 163 0) dc189_2.1.2.1 rfl rfl (Or.inl rfl) rfl ?_
                refine am_s_if_ne dc189_2.1.2.2 rfl (fun _ => ?_) (fun z => absurd c7 z)
                refine am_s_iconst am_cc0 dc189_2.2.2.1 ?_
                refine am_s_zreturn dc189_2.2.2.2 rfl (by decide) (am_bkI ?_)
                exact am_s_zreturn dc289_3.2.2.2 rfl (by decide) ((vi_f (vi_t (vi_f (vi_f (vi_f (vi_f (vi_f q c1) c2) c3) c4) c5) c6) c7))
              · refine am_s_aload_n rfl dc189_0.2.1.2 ?_
                refine am_s_iload_n rfl dc189_0.2.2.1 ?_
                refine am_s_putI dc189_0.2.2.2 rfl rfl rfl rfl ?_
                refine am_s_aload_n rfl dc189_1.1.1.1 ?_
                refine am_s_getR (r := 164) dc189_1.1.1.2 rfl rfl rfl (hp _ _ _ rfl) ?_
                refine am_s_iload_n rfl dc189_1.1.2.1 ?_
                refine am_s_dup2 rfl rfl dc189_1.1.2.2 ?_
                refine am_x_iaload (x := I 164 1) dc189_1.2.1.1 rfl (by decide +kernel) am_cN1 rfl ?_
                refine am_s_iconst am_cc1 dc189_1.2.1.2 ?_
                refine am_s_iadd dc189_1.2.2.1 ?_
                refine am_s_iastore dc189_1.2.2.2 rfl (by decide +kernel) am_cN1 ?_
                refine am_s_aload_n rfl dc189_2.1.1 ?_
                refine am_x_getI (x := 1) dc189_2.1.2.1 rfl rfl (Or.inl rfl) rfl ?_
                refine am_s_if_ne dc189_2.1.2.2 rfl (fun _ => ?_) (fun z => absurd z (by decide))
                refine am_s_iconst am_cc0 dc189_2.2.2.1 ?_
                refine am_s_zreturn dc189_2.2.2.2 rfl (by decide) (am_bkI ?_)
                exact am_s_zreturn dc289_3.2.2.2 rfl (by decide) ((vi_t (vi_t (vi_f (vi_f (vi_f (vi_f (vi_f q c1) c2) c3) c4) c5) c6) (Decidable.not_not.mp c7)))
            · refine am_s_iconst am_cc1 dc190_0.2.2.1 ?_
              refine am_s_goto rfl dc190_0.2.2.2 ?_
              refine am_s_zreturn dc190_1.2 rfl (by decide) (am_bkI ?_)
              refine am_s_if_eq dc289_2.2.1.2 rfl (fun z => absurd z (by decide)) (fun _ => ?_)
              refine am_s_iconst am_cc1 dc289_2.2.2.1 ?_
              refine am_s_goto rfl dc289_2.2.2.2 ?_
              refine am_s_iconst am_cc1 dc289_3.1.2 ?_
              refine am_s_iconst am_cc1 dc289_3.2.1 ?_
              refine am_s_virtual true dc289_3.2.2.1 rfl (by decide) rfl rfl rfl (am_mth_of rfl rfl ?_)
              refine am_s_iload_n rfl dc189_0.1.1.1 ?_
              refine am_s_if_ne dc189_0.1.1.2 rfl (fun _ => ?_) (fun z => absurd z (by decide))
              refine am_s_aload_n rfl dc189_2.1.1 ?_
              refine am_x_getI (x := I 163 0) dc189_2.1.2.1 rfl rfl (Or.inl rfl) rfl ?_
              refine am_s_if_ne dc189_2.1.2.2 rfl (fun c7 => ?_) (fun c7 => ?_)
              · refine am_s_iconst am_cc0 dc189_2.2.2.1 ?_
                refine am_s_zreturn dc189_2.2.2.2 rfl (by decide) (am_bkI ?_)
                exact am_s_zreturn dc289_3.2.2.2 rfl (by decide) ((vi_f (vi_f (vi_f (vi_f (vi_f (vi_f (vi_f q c1) c2) c3) c4) c5) c6) c7))
              · refine am_s_iconst am_cc1 dc189_2.2.1.1 ?_
                refine am_s_goto rfl dc189_2.2.1.2 ?_
                refine am_s_zreturn dc189_2.2.2.2 rfl (by decide) (am_bkI ?_)
                exact am_s_zreturn dc289_3.2.2.2 rfl (by decide) ((vi_t (vi_f (vi_f (vi_f (vi_f (vi_f (vi_f q c1) c2) c3) c4) c5) c6) (Decidable.not_not.mp c7)))
-- is (III)Z
theorem v290_0 {sc : Option (Nat × (Nat → Int32))} {d k n : Nat} {P : am_O → Prop} {I : am_I} {J : am_J} {Pf : am_R} (hp : am_PF Pf) {x1 : Int32} {x2 : Int32} {x3 : Int32} (q : (am_mth d 289 [.ref 163, .int x1, .int x2, .int x3] (am_SH, am_u I 163 0 0, J, Pf) (am_af sc d 290 9 [some (.ref 163), some (.int x1), some (.int x2), some (.int x3)] [.int x3, .int x2, .int x1, .ref 163] [] (am_SH, am_u I 163 0 0, J, Pf) k n true P))) : am_go sc d 290 (0, [some (.ref 163), some (.int x1), some (.int x2), some (.int x3)], [], (am_SH, I, J, Pf), k, n) P := by
  refine am_s_aload_n rfl dc290_0.1.1.1 ?_
  refine am_s_iconst am_cc0 dc290_0.1.1.2 ?_
  refine am_s_putI dc290_0.1.2.1 rfl rfl rfl rfl ?_
  refine am_s_aload_n rfl dc290_0.1.2.2 ?_
  refine am_s_iload_n rfl dc290_0.2.1.1 ?_
  refine am_s_iload_n rfl dc290_0.2.1.2 ?_
  refine am_s_iload_n rfl dc290_0.2.2.1 ?_
  exact am_s_virtual true dc290_0.2.2.2 rfl (by decide) rfl rfl rfl (q)
theorem v290_12 {sc : Option (Nat × (Nat → Int32))} {d k n : Nat} {P : am_O → Prop} {I : am_I} {J : am_J} {Pf : am_R} (hp : am_PF Pf) {x1 : Int32} {x2 : Int32} {x3 : Int32} {s0 : Int32} (q : (if s0 = 0 then (P (.inl (some (.int 0)), (am_SH, I, J, Pf), k, n)) else (am_mth d 271 [.ref 163] (am_SH, I, J, Pf) (am_af sc d 290 18 [some (.ref 163), some (.int x1), some (.int x2), some (.int x3)] [.ref 163] [] (am_SH, I, J, Pf) k n true P)))) : am_go sc d 290 (12, [some (.ref 163), some (.int x1), some (.int x2), some (.int x3)], [.int s0], (am_SH, I, J, Pf), k, n) P := by
  refine am_s_if_ne dc290_1.1.1.1 rfl (fun c1 => ?_) (fun c1 => ?_)
  · refine am_s_aload_n rfl dc290_1.1.2.2 ?_
    exact am_s_virtual true dc290_1.2.1.1 rfl (by decide) rfl rfl rfl ((vi_f q c1))
  · refine am_s_iconst am_cc0 dc290_1.1.1.2 ?_
    exact am_s_zreturn dc290_1.1.2.1 rfl (by decide) ((vi_t q (Decidable.not_not.mp c1)))
theorem v290_21 {sc : Option (Nat × (Nat → Int32))} {d k n : Nat} {P : am_O → Prop} {I : am_I} {J : am_J} {Pf : am_R} (hp : am_PF Pf) {x1 : Int32} {x2 : Int32} {x3 : Int32} (q : (am_in ((((((0 : Int32) * 8) + x1) * 625) + (x2 * 25)) + x3) 20000 = true) ∧ (if (I 184 (Int32.toNatClampNeg ((((((0 : Int32) * 8) + x1) * 625) + (x2 * 25)) + x3))) ≤ 0 then (P (.inl (some (.int 0)), (am_SH, I, J, Pf), k, n)) else (P (.inl (some (.int 1)), (am_SH, I, J, Pf), k, n)))) : am_go sc (d + 2) 290 (21, [some (.ref 163), some (.int x1), some (.int x2), some (.int x3)], [], (am_SH, I, J, Pf), k, n) P := by
  refine am_s_aload_n rfl dc290_1.2.1.2 ?_
  refine am_s_iconst am_cc0 dc290_1.2.2.1 ?_
  refine am_s_iload_n rfl dc290_1.2.2.2 ?_
  refine am_s_iload_n rfl dc290_2.1.1 ?_
  refine am_s_iload_n rfl dc290_2.1.2 ?_
  refine am_s_virtual true dc290_2.2.1 rfl (by decide) rfl rfl rfl (am_mth_of rfl rfl ?_)
  refine am_s_aload_n rfl dc257_0.1.1.1 ?_
  refine am_s_getR (r := 184) dc257_0.1.1.2 rfl rfl rfl (hp _ _ _ rfl) ?_
  refine am_s_iload_n rfl dc257_0.1.2.1 ?_
  refine am_s_iload_n rfl dc257_0.1.2.2 ?_
  refine am_s_iload_n rfl dc257_0.2.1.1 ?_
  refine am_s_iload rfl dc257_0.2.1.2 ?_
  refine am_s_static dc257_0.2.2.1 rfl rfl rfl (am_mth_of rfl rfl ?_)
  refine am_s_iload_n rfl dc256_0.1.1.1 ?_
  refine am_s_bipush am_cb8 dc256_0.1.1.2 ?_
  refine am_s_imul dc256_0.1.2.1 ?_
  refine am_s_iload_n rfl dc256_0.1.2.2 ?_
  refine am_s_iadd dc256_0.2.1.1 ?_
  refine am_s_sipush am_cs625 dc256_0.2.1.2 ?_
  refine am_s_imul dc256_0.2.2.1 ?_
  refine am_s_iload_n rfl dc256_0.2.2.2 ?_
  refine am_s_bipush am_cb25 dc256_1.1.1 ?_
  refine am_s_imul dc256_1.1.2.1 ?_
  refine am_s_iadd dc256_1.1.2.2 ?_
  refine am_s_iload_n rfl dc256_1.2.1 ?_
  refine am_s_iadd dc256_1.2.2.1 ?_
  refine am_s_ireturn dc256_1.2.2.2 rfl (am_bkI ?_)
  refine am_x_iaload (x := I 184 (Int32.toNatClampNeg ((((((0 : Int32) * 8) + x1) * 625) + (x2 * 25)) + x3))) dc257_0.2.2.2 rfl (q.1) rfl rfl ?_
  refine am_s_if_le dc257_1.1.1 rfl (fun c1 => ?_) (fun c1 => ?_)
  · refine am_s_iconst am_cc0 dc257_1.2.2.1 ?_
    refine am_s_zreturn dc257_1.2.2.2 rfl (by decide) (am_bkI ?_)
    exact am_s_zreturn dc290_2.2.2 rfl (by decide) ((vi_t q.2 c1))
  · refine am_s_iconst am_cc1 dc257_1.1.2 ?_
    refine am_s_goto rfl dc257_1.2.1 ?_
    refine am_s_zreturn dc257_1.2.2.2 rfl (by decide) (am_bkI ?_)
    exact am_s_zreturn dc290_2.2.2 rfl (by decide) ((vi_f q.2 c1))
-- ends (II)I
theorem v291_0 {sc : Option (Nat × (Nat → Int32))} {d k n : Nat} {P : am_O → Prop} {I : am_I} {J : am_J} {Pf : am_R} (hp : am_PF Pf) {x1 : Int32} {x2 : Int32} {l3 : Option Value} {l4 : Option Value} (q : (am_mth d 289 [.ref 163, .int x1, .int x2, .int x2] (am_SH, am_u I 163 0 0, J, Pf) (am_af sc d 291 9 [some (.ref 163), some (.int x1), some (.int x2), l3, l4] [.int x2, .int x2, .int x1, .ref 163] [] (am_SH, am_u I 163 0 0, J, Pf) k n true P))) : am_go sc d 291 (0, [some (.ref 163), some (.int x1), some (.int x2), l3, l4], [], (am_SH, I, J, Pf), k, n) P := by
  refine am_s_aload_n rfl dc291_0.1.1.1 ?_
  refine am_s_iconst am_cc0 dc291_0.1.1.2 ?_
  refine am_s_putI dc291_0.1.2.1 rfl rfl rfl rfl ?_
  refine am_s_aload_n rfl dc291_0.1.2.2 ?_
  refine am_s_iload_n rfl dc291_0.2.1.1 ?_
  refine am_s_iload_n rfl dc291_0.2.1.2 ?_
  refine am_s_iload_n rfl dc291_0.2.2.1 ?_
  exact am_s_virtual true dc291_0.2.2.2 rfl (by decide) rfl rfl rfl (q)
theorem v291_26 {sc : Option (Nat × (Nat → Int32))} {d k n : Nat} {P : am_O → Prop} {I : am_I} {J : am_J} {Pf : am_R} (hp : am_PF Pf) {x1 : Int32} {x2 : Int32} {x3 : Int32} {x4 : Int32} (q : (if (I 180 0) < x4 then (P (.inl (some (.int x3)), (am_SH, I, J, Pf), k, n)) else (am_in ((((((0 : Int32) * 8) + x1) * 625) + (x2 * 25)) + x4) 20000 = true) ∧ (if (I 184 (Int32.toNatClampNeg ((((((0 : Int32) * 8) + x1) * 625) + (x2 * 25)) + x4))) ≤ 0 then (am_go sc (d + 2) 291 (26, [some (.ref 163), some (.int x1), some (.int x2), some (.int (x3 ||| 0)), some (.int (x4 + 1))], [], (am_SH, I, J, Pf), k, n) P) else (am_go sc (d + 2) 291 (26, [some (.ref 163), some (.int x1), some (.int x2), some (.int (x3 ||| ((1 : Int32) <<< (x4 &&& 31)))), some (.int (x4 + 1))], [], (am_SH, I, J, Pf), k, n) P)))) : am_go sc (d + 2) 291 (26, [some (.ref 163), some (.int x1), some (.int x2), some (.int x3), some (.int x4)], [], (am_SH, I, J, Pf), k, n) P := by
  refine am_s_iload rfl dc291_2.1.1.2 ?_
  refine am_s_aload_n rfl dc291_2.1.2.1 ?_
  refine am_s_getR (r := 180) dc291_2.1.2.2 rfl rfl rfl (hp _ _ _ rfl) ?_
  refine am_s_iconst am_cc0 dc291_2.2.1.1 ?_
  refine am_x_iaload (x := I 180 0) dc291_2.2.1.2 rfl (by decide +kernel) am_cN0 rfl ?_
  refine am_s_ic_gt dc291_2.2.2.1 rfl (fun c1 => ?_) (fun c1 => ?_)
  · refine am_s_iload_n rfl dc291_5.1 ?_
    exact am_s_ireturn dc291_5.2 rfl ((vi_t q c1))
  · refine am_s_iload_n rfl dc291_2.2.2.2 ?_
    refine am_s_aload_n rfl dc291_3.1.1.1 ?_
    refine am_s_iconst am_cc0 dc291_3.1.1.2 ?_
    refine am_s_iload_n rfl dc291_3.1.2.1 ?_
    refine am_s_iload_n rfl dc291_3.1.2.2 ?_
    refine am_s_iload rfl dc291_3.2.1.1 ?_
    refine am_s_virtual true dc291_3.2.1.2 rfl (by decide) rfl rfl rfl (am_mth_of rfl rfl ?_)
    refine am_s_aload_n rfl dc257_0.1.1.1 ?_
    refine am_s_getR (r := 184) dc257_0.1.1.2 rfl rfl rfl (hp _ _ _ rfl) ?_
    refine am_s_iload_n rfl dc257_0.1.2.1 ?_
    refine am_s_iload_n rfl dc257_0.1.2.2 ?_
    refine am_s_iload_n rfl dc257_0.2.1.1 ?_
    refine am_s_iload rfl dc257_0.2.1.2 ?_
    refine am_s_static dc257_0.2.2.1 rfl rfl rfl (am_mth_of rfl rfl ?_)
    refine am_s_iload_n rfl dc256_0.1.1.1 ?_
    refine am_s_bipush am_cb8 dc256_0.1.1.2 ?_
    refine am_s_imul dc256_0.1.2.1 ?_
    refine am_s_iload_n rfl dc256_0.1.2.2 ?_
    refine am_s_iadd dc256_0.2.1.1 ?_
    refine am_s_sipush am_cs625 dc256_0.2.1.2 ?_
    refine am_s_imul dc256_0.2.2.1 ?_
    refine am_s_iload_n rfl dc256_0.2.2.2 ?_
    refine am_s_bipush am_cb25 dc256_1.1.1 ?_
    refine am_s_imul dc256_1.1.2.1 ?_
    refine am_s_iadd dc256_1.1.2.2 ?_
    refine am_s_iload_n rfl dc256_1.2.1 ?_
    refine am_s_iadd dc256_1.2.2.1 ?_
    refine am_s_ireturn dc256_1.2.2.2 rfl (am_bkI ?_)
    refine am_x_iaload (x := I 184 (Int32.toNatClampNeg ((((((0 : Int32) * 8) + x1) * 625) + (x2 * 25)) + x4))) dc257_0.2.2.2 rfl ((vi_f q c1).1) rfl rfl ?_
    refine am_s_if_le dc257_1.1.1 rfl (fun c2 => ?_) (fun c2 => ?_)
    · refine am_s_iconst am_cc0 dc257_1.2.2.1 ?_
      refine am_s_zreturn dc257_1.2.2.2 rfl (by decide) (am_bkI ?_)
      refine am_s_if_eq dc291_3.2.2.1 rfl (fun _ => ?_) (fun z => absurd z (by decide))
      refine am_s_iconst am_cc0 dc291_4.1.2.2 ?_
      refine am_s_ior dc291_4.2.1.1 ?_
      refine am_s_istore_n (ls' := [some (.ref 163), some (.int x1), some (.int x2), some (.int (x3 ||| 0)), some (.int x4)]) rfl rfl dc291_4.2.1.2 ?_
      refine am_s_iinc (ls' := [some (.ref 163), some (.int x1), some (.int x2), some (.int (x3 ||| 0)), some (.int (x4 + 1))]) am_cc1 rfl rfl dc291_4.2.2.1 ?_
      refine am_s_goto rfl dc291_4.2.2.2 ?_
      exact (vi_t (vi_f q c1).2 c2)
    · refine am_s_iconst am_cc1 dc257_1.1.2 ?_
      refine am_s_goto rfl dc257_1.2.1 ?_
      refine am_s_zreturn dc257_1.2.2.2 rfl (by decide) (am_bkI ?_)
      refine am_s_if_eq dc291_3.2.2.1 rfl (fun z => absurd z (by decide)) (fun _ => ?_)
      refine am_s_iconst am_cc1 dc291_3.2.2.2 ?_
      refine am_s_iload rfl dc291_4.1.1.1 ?_
      refine am_s_ishl dc291_4.1.1.2 ?_
      refine am_s_goto rfl dc291_4.1.2.1 ?_
      refine am_s_ior dc291_4.2.1.1 ?_
      refine am_s_istore_n (ls' := [some (.ref 163), some (.int x1), some (.int x2), some (.int (x3 ||| ((1 : Int32) <<< (x4 &&& 31)))), some (.int x4)]) rfl rfl dc291_4.2.1.2 ?_
      refine am_s_iinc (ls' := [some (.ref 163), some (.int x1), some (.int x2), some (.int (x3 ||| ((1 : Int32) <<< (x4 &&& 31)))), some (.int (x4 + 1))]) am_cc1 rfl rfl dc291_4.2.2.1 ?_
      refine am_s_goto rfl dc291_4.2.2.2 ?_
      exact (vi_f (vi_f q c1).2 c2)
theorem v291_12 {sc : Option (Nat × (Nat → Int32))} {d k n : Nat} {P : am_O → Prop} {I : am_I} {J : am_J} {Pf : am_R} (hp : am_PF Pf) {x1 : Int32} {x2 : Int32} {l3 : Option Value} {l4 : Option Value} {s0 : Int32} (q : (if s0 = 0 then (P (.inl (some (.int 0)), (am_SH, I, J, Pf), k, n)) else (am_mth d 271 [.ref 163] (am_SH, I, J, Pf) (am_af sc d 291 18 [some (.ref 163), some (.int x1), some (.int x2), l3, l4] [.ref 163] [] (am_SH, I, J, Pf) k n true P)))) : am_go sc d 291 (12, [some (.ref 163), some (.int x1), some (.int x2), l3, l4], [.int s0], (am_SH, I, J, Pf), k, n) P := by
  refine am_s_if_ne dc291_1.1.1.1 rfl (fun c1 => ?_) (fun c1 => ?_)
  · refine am_s_aload_n rfl dc291_1.1.2.2 ?_
    exact am_s_virtual true dc291_1.2.1.1 rfl (by decide) rfl rfl rfl ((vi_f q c1))
  · refine am_s_iconst am_cc0 dc291_1.1.1.2 ?_
    exact am_s_ireturn dc291_1.1.2.1 rfl ((vi_t q (Decidable.not_not.mp c1)))
theorem v291_21 {sc : Option (Nat × (Nat → Int32))} {d k n : Nat} {P : am_O → Prop} {I : am_I} {J : am_J} {Pf : am_R} (hp : am_PF Pf) {x1 : Int32} {x2 : Int32} {l3 : Option Value} {l4 : Option Value} (q : (am_go sc d 291 (26, [some (.ref 163), some (.int x1), some (.int x2), some (.int 0), some (.int x2)], [], (am_SH, I, J, Pf), k, n) P)) : am_go sc d 291 (21, [some (.ref 163), some (.int x1), some (.int x2), l3, l4], [], (am_SH, I, J, Pf), k, n) P := by
  refine am_s_iconst am_cc0 dc291_1.2.1.2 ?_
  refine am_s_istore_n (ls' := [some (.ref 163), some (.int x1), some (.int x2), some (.int 0), l4]) rfl rfl dc291_1.2.2.1 ?_
  refine am_s_iload_n rfl dc291_1.2.2.2 ?_
  refine am_s_istore (ls' := [some (.ref 163), some (.int x1), some (.int x2), some (.int 0), some (.int x2)]) rfl rfl dc291_2.1.1.1 ?_
  exact q
-- rowsOf (III)I
theorem v292_0 {sc : Option (Nat × (Nat → Int32))} {d k n : Nat} {P : am_O → Prop} {I : am_I} {J : am_J} {Pf : am_R} (hp : am_PF Pf) {x1 : Int32} {x2 : Int32} {x3 : Int32} {l4 : Option Value} {l5 : Option Value} {l6 : Option Value} {l7 : Option Value} {l8 : Option Value} (q : (am_go sc d 292 (3, [some (.ref 163), some (.int x1), some (.int x2), some (.int x3), some (.int 0), l5, l6, l7, l8], [], (am_SH, I, J, Pf), k, n) P)) : am_go sc d 292 (0, [some (.ref 163), some (.int x1), some (.int x2), some (.int x3), l4, l5, l6, l7, l8], [], (am_SH, I, J, Pf), k, n) P := by
  refine am_s_iconst am_cc0 dc292_0.1.1.1 ?_
  refine am_s_istore (ls' := [some (.ref 163), some (.int x1), some (.int x2), some (.int x3), some (.int 0), l5, l6, l7, l8]) rfl rfl dc292_0.1.1.2 ?_
  exact q
theorem v292_3 {sc : Option (Nat × (Nat → Int32))} {d k n : Nat} {P : am_O → Prop} {I : am_I} {J : am_J} {Pf : am_R} (hp : am_PF Pf) {x1 : Int32} {x2 : Int32} {x3 : Int32} {x4 : Int32} {l5 : Option Value} {l6 : Option Value} {l7 : Option Value} {l8 : Option Value} (q : (if 25 ≤ x4 then (am_go sc d 292 (37, [some (.ref 163), some (.int x1), some (.int x2), some (.int x3), some (.int 0), l5, l6, l7, l8], [], (am_SH, I, J, Pf), k, n) P) else (if x4 = x2 then (am_in x4 25 = true) ∧ (am_go sc d 292 (3, [some (.ref 163), some (.int x1), some (.int x2), some (.int x3), some (.int (x4 + 1)), l5, l6, l7, l8], [], (am_SH, am_u I 192 (Int32.toNatClampNeg x4) 1, J, Pf), k, n) P) else (am_in x4 25 = true) ∧ (am_go sc d 292 (3, [some (.ref 163), some (.int x1), some (.int x2), some (.int x3), some (.int (x4 + 1)), l5, l6, l7, l8], [], (am_SH, am_u I 192 (Int32.toNatClampNeg x4) 0, J, Pf), k, n) P)))) : am_go sc d 292 (3, [some (.ref 163), some (.int x1), some (.int x2), some (.int x3), some (.int x4), l5, l6, l7, l8], [], (am_SH, I, J, Pf), k, n) P := by
  refine am_s_iload rfl dc292_0.1.2.1 ?_
  refine am_s_bipush am_cb25 dc292_0.1.2.2 ?_
  refine am_s_ic_ge dc292_0.2.1.1 rfl (fun c1 => ?_) (fun c1 => ?_)
  · refine am_s_iconst am_cc0 dc292_2.1.1.2 ?_
    refine am_s_istore (ls' := [some (.ref 163), some (.int x1), some (.int x2), some (.int x3), some (.int 0), l5, l6, l7, l8]) rfl rfl dc292_2.1.2.1 ?_
    exact (vi_t q c1)
  · refine am_s_aload_n rfl dc292_0.2.1.2 ?_
    refine am_s_getR (r := 192) dc292_0.2.2.1 rfl rfl rfl (hp _ _ _ rfl) ?_
    refine am_s_iload rfl dc292_0.2.2.2 ?_
    refine am_s_iload rfl dc292_1.1.1.1 ?_
    refine am_s_iload_n rfl dc292_1.1.1.2 ?_
    refine am_s_ic_ne dc292_1.1.2.1 rfl (fun c2 => ?_) (fun c2 => ?_)
    · refine am_s_iconst am_cc0 dc292_1.2.1.2 ?_
      refine am_s_iastore dc292_1.2.2.1 rfl ((vi_f (vi_f q c1) c2).1) rfl ?_
      refine am_s_iinc (ls' := [some (.ref 163), some (.int x1), some (.int x2), some (.int x3), some (.int (x4 + 1)), l5, l6, l7, l8]) am_cc1 rfl rfl dc292_1.2.2.2 ?_
      refine am_s_goto rfl dc292_2.1.1.1 ?_
      exact (vi_f (vi_f q c1) c2).2
    · refine am_s_iconst am_cc1 dc292_1.1.2.2 ?_
      refine am_s_goto rfl dc292_1.2.1.1 ?_
      refine am_s_iastore dc292_1.2.2.1 rfl ((vi_t (vi_f q c1) (Decidable.not_not.mp c2)).1) rfl ?_
      refine am_s_iinc (ls' := [some (.ref 163), some (.int x1), some (.int x2), some (.int x3), some (.int (x4 + 1)), l5, l6, l7, l8]) am_cc1 rfl rfl dc292_1.2.2.2 ?_
      refine am_s_goto rfl dc292_2.1.1.1 ?_
      exact (vi_t (vi_f q c1) (Decidable.not_not.mp c2)).2
theorem v292_37 {sc : Option (Nat × (Nat → Int32))} {d k n : Nat} {P : am_O → Prop} {I : am_I} {J : am_J} {Pf : am_R} (hp : am_PF Pf) {x1 : Int32} {x2 : Int32} {x3 : Int32} {x4 : Int32} {l5 : Option Value} {l6 : Option Value} {l7 : Option Value} {l8 : Option Value} (q : (am_in ((32 + (3 * x1)) + 2) 1040 = true) ∧ (if (I 167 (Int32.toNatClampNeg ((32 + (3 * x1)) + 2))) ≤ x4 then (am_in x3 25 = true) ∧ (P (.inl (some (.int (I 192 (Int32.toNatClampNeg x3)))), (am_SH, I, J, Pf), k, n)) else (am_go sc d 292 (72, [some (.ref 163), some (.int x1), some (.int x2), some (.int x3), some (.int x4), some (.int (92 + (((4 * x1) + x4) * 11))), some (.int 0), l7, l8], [], (am_SH, I, J, Pf), k, n) P))) : am_go sc d 292 (37, [some (.ref 163), some (.int x1), some (.int x2), some (.int x3), some (.int x4), l5, l6, l7, l8], [], (am_SH, I, J, Pf), k, n) P := by
  refine am_s_iload rfl dc292_2.1.2.2 ?_
  refine am_s_aload_n rfl dc292_2.2.1.1 ?_
  refine am_s_getR (r := 167) dc292_2.2.1.2 rfl rfl rfl (hp _ _ _ rfl) ?_
  refine am_s_bipush am_cb32 dc292_2.2.2.1 ?_
  refine am_s_iconst am_cc3 dc292_2.2.2.2 ?_
  refine am_s_iload_n rfl dc292_3.1.1.1 ?_
  refine am_s_imul dc292_3.1.1.2 ?_
  refine am_s_iadd dc292_3.1.2.1 ?_
  refine am_s_iconst am_cc2 dc292_3.1.2.2 ?_
  refine am_s_iadd dc292_3.2.1.1 ?_
  refine am_x_iaload (x := I 167 (Int32.toNatClampNeg ((32 + (3 * x1)) + 2))) dc292_3.2.1.2 rfl (q.1) rfl rfl ?_
  refine am_s_ic_ge dc292_3.2.2.1 rfl (fun c1 => ?_) (fun c1 => ?_)
  · refine am_s_aload_n rfl dc292_19.1.1 ?_
    refine am_s_getR (r := 192) dc292_19.1.2 rfl rfl rfl (hp _ _ _ rfl) ?_
    refine am_s_iload_n rfl dc292_19.2.1 ?_
    refine am_x_iaload (x := I 192 (Int32.toNatClampNeg x3)) dc292_19.2.2.1 rfl ((vi_t q.2 c1).1) rfl rfl ?_
    exact am_s_ireturn dc292_19.2.2.2 rfl ((vi_t q.2 c1).2)
  · refine am_s_bipush am_cb92 dc292_3.2.2.2 ?_
    refine am_s_iconst am_cc4 dc292_4.1.1.1 ?_
    refine am_s_iload_n rfl dc292_4.1.1.2 ?_
    refine am_s_imul dc292_4.1.2.1 ?_
    refine am_s_iload rfl dc292_4.1.2.2 ?_
    refine am_s_iadd dc292_4.2.1.1 ?_
    refine am_s_bipush am_cb11 dc292_4.2.1.2 ?_
    refine am_s_imul dc292_4.2.2.1 ?_
    refine am_s_iadd dc292_4.2.2.2 ?_
    refine am_s_istore (ls' := [some (.ref 163), some (.int x1), some (.int x2), some (.int x3), some (.int x4), some (.int (92 + (((4 * x1) + x4) * 11))), l6, l7, l8]) rfl rfl dc292_5.1.1.1 ?_
    refine am_s_iconst am_cc0 dc292_5.1.1.2 ?_
    refine am_s_istore (ls' := [some (.ref 163), some (.int x1), some (.int x2), some (.int x3), some (.int x4), some (.int (92 + (((4 * x1) + x4) * 11))), some (.int 0), l7, l8]) rfl rfl dc292_5.1.2.1 ?_
    exact (vi_f q.2 c1)
theorem v292_72 {sc : Option (Nat × (Nat → Int32))} {d k n : Nat} {P : am_O → Prop} {I : am_I} {J : am_J} {Pf : am_R} (hp : am_PF Pf) {x1 : Int32} {x2 : Int32} {x3 : Int32} {x4 : Int32} {x5 : Int32} {x6 : Int32} {l7 : Option Value} {l8 : Option Value} (q : (if 25 ≤ x6 then (am_go sc d 292 (96, [some (.ref 163), some (.int x1), some (.int x2), some (.int x3), some (.int x4), some (.int x5), some (.int x2), l7, l8], [], (am_SH, I, J, Pf), k, n) P) else (am_in x6 25 = true) ∧ (am_go sc d 292 (72, [some (.ref 163), some (.int x1), some (.int x2), some (.int x3), some (.int x4), some (.int x5), some (.int (x6 + 1)), l7, l8], [], (am_SH, am_u I 193 (Int32.toNatClampNeg x6) 0, J, Pf), k, n) P))) : am_go sc d 292 (72, [some (.ref 163), some (.int x1), some (.int x2), some (.int x3), some (.int x4), some (.int x5), some (.int x6), l7, l8], [], (am_SH, I, J, Pf), k, n) P := by
  refine am_s_iload rfl dc292_5.1.2.2 ?_
  refine am_s_bipush am_cb25 dc292_5.2.1.1 ?_
  refine am_s_ic_ge dc292_5.2.1.2 rfl (fun c1 => ?_) (fun c1 => ?_)
  · refine am_s_iload_n rfl dc292_6.2.1.2 ?_
    refine am_s_istore (ls' := [some (.ref 163), some (.int x1), some (.int x2), some (.int x3), some (.int x4), some (.int x5), some (.int x2), l7, l8]) rfl rfl dc292_6.2.2.1 ?_
    exact (vi_t q c1)
  · refine am_s_aload_n rfl dc292_5.2.2.1 ?_
    refine am_s_getR (r := 193) dc292_5.2.2.2 rfl rfl rfl (hp _ _ _ rfl) ?_
    refine am_s_iload rfl dc292_6.1.1.1 ?_
    refine am_s_iconst am_cc0 dc292_6.1.1.2 ?_
    refine am_s_iastore dc292_6.1.2.1 rfl ((vi_f q c1).1) rfl ?_
    refine am_s_iinc (ls' := [some (.ref 163), some (.int x1), some (.int x2), some (.int x3), some (.int x4), some (.int x5), some (.int (x6 + 1)), l7, l8]) am_cc1 rfl rfl dc292_6.1.2.2 ?_
    refine am_s_goto rfl dc292_6.2.1.1 ?_
    exact (vi_f q c1).2
theorem v292_96 {sc : Option (Nat × (Nat → Int32))} {d k n : Nat} {P : am_O → Prop} {I : am_I} {J : am_J} {Pf : am_R} (hp : am_PF Pf) {x1 : Int32} {x2 : Int32} {x3 : Int32} {x4 : Int32} {x5 : Int32} {x6 : Int32} {l7 : Option Value} {l8 : Option Value} (q : (if x3 < x6 then (am_go sc d 292 (247, [some (.ref 163), some (.int x1), some (.int x2), some (.int x3), some (.int x4), some (.int x5), some (.int 0), l7, l8], [], (am_SH, I, J, Pf), k, n) P) else (am_in x6 25 = true) ∧ (if (I 192 (Int32.toNatClampNeg x6)) = 0 then (am_go sc d 292 (96, [some (.ref 163), some (.int x1), some (.int x2), some (.int x3), some (.int x4), some (.int x5), some (.int (x6 + 1)), l7, l8], [], (am_SH, I, J, Pf), k, n) P) else (am_mth d 268 [.ref 163, .int 0, .int x1, .int x4, .int x6] (am_SH, I, J, Pf) (am_af sc d 292 122 [some (.ref 163), some (.int x1), some (.int x2), some (.int x3), some (.int x4), some (.int x5), some (.int x6), l7, l8] [.int x6, .int x4, .int x1, .int 0, .ref 163] [] (am_SH, I, J, Pf) k n true P))))) : am_go sc d 292 (96, [some (.ref 163), some (.int x1), some (.int x2), some (.int x3), some (.int x4), some (.int x5), some (.int x6), l7, l8], [], (am_SH, I, J, Pf), k, n) P := by
  refine am_s_iload rfl dc292_6.2.2.2 ?_
  refine am_s_iload_n rfl dc292_7.1.1.1 ?_
  refine am_s_ic_gt dc292_7.1.1.2 rfl (fun c1 => ?_) (fun c1 => ?_)
  · refine am_s_iconst am_cc0 dc292_16.2.2.2 ?_
    refine am_s_istore (ls' := [some (.ref 163), some (.int x1), some (.int x2), some (.int x3), some (.int x4), some (.int x5), some (.int 0), l7, l8]) rfl rfl dc292_17.1.1.1 ?_
    exact (vi_t q c1)
  · refine am_s_aload_n rfl dc292_7.1.2.1 ?_
    refine am_s_getR (r := 192) dc292_7.1.2.2 rfl rfl rfl (hp _ _ _ rfl) ?_
    refine am_s_iload rfl dc292_7.2.1.1 ?_
    refine am_x_iaload (x := I 192 (Int32.toNatClampNeg x6)) dc292_7.2.1.2 rfl ((vi_f q c1).1) rfl rfl ?_
    refine am_s_if_ne dc292_7.2.2.1 rfl (fun c2 => ?_) (fun c2 => ?_)
    · refine am_s_aload_n rfl dc292_8.1.1.1 ?_
      refine am_s_iconst am_cc0 dc292_8.1.1.2 ?_
      refine am_s_iload_n rfl dc292_8.1.2.1 ?_
      refine am_s_iload rfl dc292_8.1.2.2 ?_
      refine am_s_iload rfl dc292_8.2.1.1 ?_
      exact am_s_virtual true dc292_8.2.1.2 rfl (by decide) rfl rfl rfl ((vi_f (vi_f q c1).2 c2))
    · refine am_s_goto rfl dc292_7.2.2.2 ?_
      refine am_s_iinc (ls' := [some (.ref 163), some (.int x1), some (.int x2), some (.int x3), some (.int x4), some (.int x5), some (.int (x6 + 1)), l7, l8]) am_cc1 rfl rfl dc292_16.2.1.2 ?_
      refine am_s_goto rfl dc292_16.2.2.1 ?_
      exact (vi_t (vi_f q c1).2 (Decidable.not_not.mp c2))
theorem v292_179 {sc : Option (Nat × (Nat → Int32))} {d k n : Nat} {P : am_O → Prop} {I : am_I} {J : am_J} {Pf : am_R} (hp : am_PF Pf) {x1 : Int32} {x2 : Int32} {x3 : Int32} {x4 : Int32} {x5 : Int32} {x6 : Int32} {x7 : Int32} {x8 : Int32} (q : (if (I 180 0) < x8 then (am_go sc (d + 2) 292 (96, [some (.ref 163), some (.int x1), some (.int x2), some (.int x3), some (.int x4), some (.int x5), some (.int (x6 + 1)), some (.int x7), some (.int x8)], [], (am_SH, I, J, Pf), k, n) P) else (am_in x8 25 = true) ∧ (am_in (x5 + 1) 1040 = true) ∧ (am_in ((((((0 : Int32) * 8) + (I 167 (Int32.toNatClampNeg (x5 + 1)))) * 625) + (x7 * 25)) + x8) 20000 = true) ∧ (if (I 184 (Int32.toNatClampNeg ((((((0 : Int32) * 8) + (I 167 (Int32.toNatClampNeg (x5 + 1)))) * 625) + (x7 * 25)) + x8))) ≤ 0 then (am_in x8 25 = true) ∧ (am_go sc (d + 2) 292 (179, [some (.ref 163), some (.int x1), some (.int x2), some (.int x3), some (.int x4), some (.int x5), some (.int x6), some (.int x7), some (.int (x8 + 1))], [], (am_SH, am_u I 193 (Int32.toNatClampNeg x8) ((I 193 (Int32.toNatClampNeg x8)) + 0), J, Pf), k, n) P) else (am_in x6 25 = true) ∧ (am_in x8 25 = true) ∧ (am_go sc (d + 2) 292 (179, [some (.ref 163), some (.int x1), some (.int x2), some (.int x3), some (.int x4), some (.int x5), some (.int x6), some (.int x7), some (.int (x8 + 1))], [], (am_SH, am_u I 193 (Int32.toNatClampNeg x8) ((I 193 (Int32.toNatClampNeg x8)) + (I 192 (Int32.toNatClampNeg x6))), J, Pf), k, n) P)))) : am_go sc (d + 2) 292 (179, [some (.ref 163), some (.int x1), some (.int x2), some (.int x3), some (.int x4), some (.int x5), some (.int x6), some (.int x7), some (.int x8)], [], (am_SH, I, J, Pf), k, n) P := by
  refine am_s_iload rfl dc292_12.2.1.1 ?_
  refine am_s_aload_n rfl dc292_12.2.1.2 ?_
  refine am_s_getR (r := 180) dc292_12.2.2.1 rfl rfl rfl (hp _ _ _ rfl) ?_
  refine am_s_iconst am_cc0 dc292_12.2.2.2 ?_
  refine am_x_iaload (x := I 180 0) dc292_13.1.1.1 rfl (by decide +kernel) am_cN0 rfl ?_
  refine am_s_ic_gt dc292_13.1.1.2 rfl (fun c1 => ?_) (fun c1 => ?_)
  · refine am_s_iinc (ls' := [some (.ref 163), some (.int x1), some (.int x2), some (.int x3), some (.int x4), some (.int x5), some (.int (x6 + 1)), some (.int x7), some (.int x8)]) am_cc1 rfl rfl dc292_16.2.1.2 ?_
    refine am_s_goto rfl dc292_16.2.2.1 ?_
    exact (vi_t q c1)
  · refine am_s_aload_n rfl dc292_13.1.2.1 ?_
    refine am_s_getR (r := 193) dc292_13.1.2.2 rfl rfl rfl (hp _ _ _ rfl) ?_
    refine am_s_iload rfl dc292_13.2.1.1 ?_
    refine am_s_dup2 rfl rfl dc292_13.2.1.2 ?_
    refine am_x_iaload (x := I 193 (Int32.toNatClampNeg x8)) dc292_13.2.2.1 rfl ((vi_f q c1).1) rfl rfl ?_
    refine am_s_aload_n rfl dc292_13.2.2.2 ?_
    refine am_s_iconst am_cc0 dc292_14.1.1.1 ?_
    refine am_s_aload_n rfl dc292_14.1.1.2 ?_
    refine am_s_getR (r := 167) dc292_14.1.2.1 rfl rfl rfl (hp _ _ _ rfl) ?_
    refine am_s_iload rfl dc292_14.1.2.2 ?_
    refine am_s_iconst am_cc1 dc292_14.2.1.1 ?_
    refine am_s_iadd dc292_14.2.1.2 ?_
    refine am_x_iaload (x := I 167 (Int32.toNatClampNeg (x5 + 1))) dc292_14.2.2.1 rfl ((vi_f q c1).2.1) rfl rfl ?_
    refine am_s_iload rfl dc292_14.2.2.2 ?_
    refine am_s_iload rfl dc292_15.1.1.1 ?_
    refine am_s_virtual true dc292_15.1.1.2 rfl (by decide) rfl rfl rfl (am_mth_of rfl rfl ?_)
    refine am_s_aload_n rfl dc257_0.1.1.1 ?_
    refine am_s_getR (r := 184) dc257_0.1.1.2 rfl rfl rfl (hp _ _ _ rfl) ?_
    refine am_s_iload_n rfl dc257_0.1.2.1 ?_
    refine am_s_iload_n rfl dc257_0.1.2.2 ?_
    refine am_s_iload_n rfl dc257_0.2.1.1 ?_
    refine am_s_iload rfl dc257_0.2.1.2 ?_
    refine am_s_static dc257_0.2.2.1 rfl rfl rfl (am_mth_of rfl rfl ?_)
    refine am_s_iload_n rfl dc256_0.1.1.1 ?_
    refine am_s_bipush am_cb8 dc256_0.1.1.2 ?_
    refine am_s_imul dc256_0.1.2.1 ?_
    refine am_s_iload_n rfl dc256_0.1.2.2 ?_
    refine am_s_iadd dc256_0.2.1.1 ?_
    refine am_s_sipush am_cs625 dc256_0.2.1.2 ?_
    refine am_s_imul dc256_0.2.2.1 ?_
    refine am_s_iload_n rfl dc256_0.2.2.2 ?_
    refine am_s_bipush am_cb25 dc256_1.1.1 ?_
    refine am_s_imul dc256_1.1.2.1 ?_
    refine am_s_iadd dc256_1.1.2.2 ?_
    refine am_s_iload_n rfl dc256_1.2.1 ?_
    refine am_s_iadd dc256_1.2.2.1 ?_
    refine am_s_ireturn dc256_1.2.2.2 rfl (am_bkI ?_)
    refine am_x_iaload (x := I 184 (Int32.toNatClampNeg ((((((0 : Int32) * 8) + (I 167 (Int32.toNatClampNeg (x5 + 1)))) * 625) + (x7 * 25)) + x8))) dc257_0.2.2.2 rfl ((vi_f q c1).2.2.1) rfl rfl ?_
    refine am_s_if_le dc257_1.1.1 rfl (fun c2 => ?_) (fun c2 => ?_)
    · refine am_s_iconst am_cc0 dc257_1.2.2.1 ?_
      refine am_s_zreturn dc257_1.2.2.2 rfl (by decide) (am_bkI ?_)
      refine am_s_if_eq dc292_15.1.2.1 rfl (fun _ => ?_) (fun z => absurd z (by decide))
      refine am_s_iconst am_cc0 dc292_16.1.1.1 ?_
      refine am_s_iadd dc292_16.1.1.2 ?_
      refine am_s_iastore dc292_16.1.2.1 rfl ((vi_t (vi_f q c1).2.2.2 c2).1) rfl ?_
      refine am_s_iinc (ls' := [some (.ref 163), some (.int x1), some (.int x2), some (.int x3), some (.int x4), some (.int x5), some (.int x6), some (.int x7), some (.int (x8 + 1))]) am_cc1 rfl rfl dc292_16.1.2.2 ?_
      refine am_s_goto rfl dc292_16.2.1.1 ?_
      exact (vi_t (vi_f q c1).2.2.2 c2).2
    · refine am_s_iconst am_cc1 dc257_1.1.2 ?_
      refine am_s_goto rfl dc257_1.2.1 ?_
      refine am_s_zreturn dc257_1.2.2.2 rfl (by decide) (am_bkI ?_)
      refine am_s_if_eq dc292_15.1.2.1 rfl (fun z => absurd z (by decide)) (fun _ => ?_)
      refine am_s_aload_n rfl dc292_15.1.2.2 ?_
      refine am_s_getR (r := 192) dc292_15.2.1.1 rfl rfl rfl (hp _ _ _ rfl) ?_
      refine am_s_iload rfl dc292_15.2.1.2 ?_
      refine am_x_iaload (x := I 192 (Int32.toNatClampNeg x6)) dc292_15.2.2.1 rfl ((vi_f (vi_f q c1).2.2.2 c2).1) rfl rfl ?_
      refine am_s_goto rfl dc292_15.2.2.2 ?_
      refine am_s_iadd dc292_16.1.1.2 ?_
      refine am_s_iastore dc292_16.1.2.1 rfl ((vi_f (vi_f q c1).2.2.2 c2).2.1) rfl ?_
      refine am_s_iinc (ls' := [some (.ref 163), some (.int x1), some (.int x2), some (.int x3), some (.int x4), some (.int x5), some (.int x6), some (.int x7), some (.int (x8 + 1))]) am_cc1 rfl rfl dc292_16.1.2.2 ?_
      refine am_s_goto rfl dc292_16.2.1.1 ?_
      exact (vi_f (vi_f q c1).2.2.2 c2).2.2
theorem v292_247 {sc : Option (Nat × (Nat → Int32))} {d k n : Nat} {P : am_O → Prop} {I : am_I} {J : am_J} {Pf : am_R} (hp : am_PF Pf) {x1 : Int32} {x2 : Int32} {x3 : Int32} {x4 : Int32} {l5 : Option Value} {x6 : Int32} {l7 : Option Value} {l8 : Option Value} (hl5 : am_k1 l5 = true) (q : (if 25 ≤ x6 then (am_go sc d 292 (37, [some (.ref 163), some (.int x1), some (.int x2), some (.int x3), some (.int (x4 + 1)), l5, some (.int x6), l7, l8], [], (am_SH, I, J, Pf), k, n) P) else (am_in x6 25 = true) ∧ (am_in x6 25 = true) ∧ (am_go sc d 292 (247, [some (.ref 163), some (.int x1), some (.int x2), some (.int x3), some (.int x4), l5, some (.int (x6 + 1)), l7, l8], [], (am_SH, am_u I 192 (Int32.toNatClampNeg x6) (I 193 (Int32.toNatClampNeg x6)), J, Pf), k, n) P))) : am_go sc d 292 (247, [some (.ref 163), some (.int x1), some (.int x2), some (.int x3), some (.int x4), l5, some (.int x6), l7, l8], [], (am_SH, I, J, Pf), k, n) P := by
  refine am_s_iload rfl dc292_17.1.1.2 ?_
  refine am_s_bipush am_cb25 dc292_17.1.2.1 ?_
  refine am_s_ic_ge dc292_17.1.2.2 rfl (fun c1 => ?_) (fun c1 => ?_)
  · refine am_s_iinc (ls' := [some (.ref 163), some (.int x1), some (.int x2), some (.int x3), some (.int (x4 + 1)), l5, some (.int x6), l7, l8]) am_cc1 rfl rfl dc292_18.2.2.1 ?_
    refine am_s_goto rfl dc292_18.2.2.2 ?_
    exact (vi_t q c1)
  · refine am_s_aload_n rfl dc292_17.2.1.1 ?_
    refine am_s_getR (r := 192) dc292_17.2.1.2 rfl rfl rfl (hp _ _ _ rfl) ?_
    refine am_s_iload rfl dc292_17.2.2.1 ?_
    refine am_s_aload_n rfl dc292_17.2.2.2 ?_
    refine am_s_getR (r := 193) dc292_18.1.1.1 rfl rfl rfl (hp _ _ _ rfl) ?_
    refine am_s_iload rfl dc292_18.1.1.2 ?_
    refine am_x_iaload (x := I 193 (Int32.toNatClampNeg x6)) dc292_18.1.2.1 rfl ((vi_f q c1).1) rfl rfl ?_
    refine am_s_iastore dc292_18.1.2.2 rfl ((vi_f q c1).2.1) rfl ?_
    refine am_s_iinc (ls' := [some (.ref 163), some (.int x1), some (.int x2), some (.int x3), some (.int x4), l5, some (.int (x6 + 1)), l7, l8]) am_cc1 rfl (am_set1_k (am_kill_x (j := 5) rfl hl5) rfl) dc292_18.2.1.1 ?_
    refine am_s_goto rfl dc292_18.2.1.2 ?_
    exact (vi_f q c1).2.2
theorem v292_125 {sc : Option (Nat × (Nat → Int32))} {d k n : Nat} {P : am_O → Prop} {I : am_I} {J : am_J} {Pf : am_R} (hp : am_PF Pf) {x1 : Int32} {x2 : Int32} {x3 : Int32} {x4 : Int32} {x5 : Int32} {x6 : Int32} {l7 : Option Value} {l8 : Option Value} {s0 : Int32} (q : (am_in x5 1040 = true) ∧ (if (I 167 (Int32.toNatClampNeg x5)) = 1 then (am_go sc d 292 (179, [some (.ref 163), some (.int x1), some (.int x2), some (.int x3), some (.int x4), some (.int x5), some (.int x6), some (.int s0), some (.int s0)], [], (am_SH, I, J, Pf), k, n) P) else (am_mth d 269 [.ref 163, .int 0, .int x5, .int s0] (am_SH, I, J, Pf) (am_af sc d 292 144 [some (.ref 163), some (.int x1), some (.int x2), some (.int x3), some (.int x4), some (.int x5), some (.int x6), some (.int s0), l8] [.int s0, .int x5, .int 0, .ref 163] [] (am_SH, I, J, Pf) k n true P)))) : am_go sc d 292 (125, [some (.ref 163), some (.int x1), some (.int x2), some (.int x3), some (.int x4), some (.int x5), some (.int x6), l7, l8], [.int s0], (am_SH, I, J, Pf), k, n) P := by
  refine am_s_istore (ls' := [some (.ref 163), some (.int x1), some (.int x2), some (.int x3), some (.int x4), some (.int x5), some (.int x6), some (.int s0), l8]) rfl rfl dc292_8.2.2.1 ?_
  refine am_s_aload_n rfl dc292_8.2.2.2 ?_
  refine am_s_getR (r := 167) dc292_9.1.1.1 rfl rfl rfl (hp _ _ _ rfl) ?_
  refine am_s_iload rfl dc292_9.1.1.2 ?_
  refine am_x_iaload (x := I 167 (Int32.toNatClampNeg x5)) dc292_9.1.2.1 rfl (q.1) rfl rfl ?_
  refine am_s_iconst am_cc1 dc292_9.1.2.2 ?_
  refine am_s_ic_eq dc292_9.2.1.1 rfl (fun c1 => ?_) (fun c1 => ?_)
  · refine am_s_iload rfl dc292_12.1.2.1 ?_
    refine am_s_istore (ls' := [some (.ref 163), some (.int x1), some (.int x2), some (.int x3), some (.int x4), some (.int x5), some (.int x6), some (.int s0), some (.int s0)]) rfl rfl dc292_12.1.2.2 ?_
    exact (vi_t q.2 c1)
  · refine am_s_aload_n rfl dc292_9.2.1.2 ?_
    refine am_s_iconst am_cc0 dc292_9.2.2.1 ?_
    refine am_s_iload rfl dc292_9.2.2.2 ?_
    refine am_s_iload rfl dc292_10.1.1.1 ?_
    exact am_s_virtual true dc292_10.1.1.2 rfl (by decide) rfl rfl rfl ((vi_f q.2 c1))
theorem v292_147 {sc : Option (Nat × (Nat → Int32))} {d k n : Nat} {P : am_O → Prop} {I : am_I} {J : am_J} {Pf : am_R} (hp : am_PF Pf) {x1 : Int32} {x2 : Int32} {x3 : Int32} {x4 : Int32} {x5 : Int32} {x6 : Int32} {l7 : Option Value} {l8 : Option Value} {s0 : Int32} (hl7 : am_k1 l7 = true) (q : (if s0 = (-1) then (am_go sc d 292 (96, [some (.ref 163), some (.int x1), some (.int x2), some (.int x3), some (.int x4), some (.int x5), some (.int (x6 + 1)), l7, some (.int s0)], [], (am_SH, I, J, Pf), k, n) P) else (am_in s0 25 = true) ∧ (am_in x6 25 = true) ∧ (am_in s0 25 = true) ∧ (am_go sc d 292 (96, [some (.ref 163), some (.int x1), some (.int x2), some (.int x3), some (.int x4), some (.int x5), some (.int (x6 + 1)), l7, some (.int s0)], [], (am_SH, am_u I 193 (Int32.toNatClampNeg s0) ((I 193 (Int32.toNatClampNeg s0)) + (I 192 (Int32.toNatClampNeg x6))), J, Pf), k, n) P))) : am_go sc d 292 (147, [some (.ref 163), some (.int x1), some (.int x2), some (.int x3), some (.int x4), some (.int x5), some (.int x6), l7, l8], [.int s0], (am_SH, I, J, Pf), k, n) P := by
  refine am_s_istore (ls' := [some (.ref 163), some (.int x1), some (.int x2), some (.int x3), some (.int x4), some (.int x5), some (.int x6), l7, some (.int s0)]) rfl (am_set1_k (am_kill_x (j := 7) rfl hl7) rfl) dc292_10.1.2.1 ?_
  refine am_s_iload rfl dc292_10.1.2.2 ?_
  refine am_s_iconst am_ccm1 dc292_10.2.1.1 ?_
  refine am_s_ic_eq dc292_10.2.1.2 rfl (fun c1 => ?_) (fun c1 => ?_)
  · refine am_s_goto rfl dc292_12.1.1.2 ?_
    refine am_s_iinc (ls' := [some (.ref 163), some (.int x1), some (.int x2), some (.int x3), some (.int x4), some (.int x5), some (.int (x6 + 1)), l7, some (.int s0)]) am_cc1 rfl rfl dc292_16.2.1.2 ?_
    refine am_s_goto rfl dc292_16.2.2.1 ?_
    exact (vi_t q c1)
  · refine am_s_aload_n rfl dc292_10.2.2.1 ?_
    refine am_s_getR (r := 193) dc292_10.2.2.2 rfl rfl rfl (hp _ _ _ rfl) ?_
    refine am_s_iload rfl dc292_11.1.1.1 ?_
    refine am_s_dup2 rfl rfl dc292_11.1.1.2 ?_
    refine am_x_iaload (x := I 193 (Int32.toNatClampNeg s0)) dc292_11.1.2.1 rfl ((vi_f q c1).1) rfl rfl ?_
    refine am_s_aload_n rfl dc292_11.1.2.2 ?_
    refine am_s_getR (r := 192) dc292_11.2.1.1 rfl rfl rfl (hp _ _ _ rfl) ?_
    refine am_s_iload rfl dc292_11.2.1.2 ?_
    refine am_x_iaload (x := I 192 (Int32.toNatClampNeg x6)) dc292_11.2.2.1 rfl ((vi_f q c1).2.1) rfl rfl ?_
    refine am_s_iadd dc292_11.2.2.2 ?_
    refine am_s_iastore dc292_12.1.1.1 rfl ((vi_f q c1).2.2.1) rfl ?_
    refine am_s_goto rfl dc292_12.1.1.2 ?_
    refine am_s_iinc (ls' := [some (.ref 163), some (.int x1), some (.int x2), some (.int x3), some (.int x4), some (.int x5), some (.int (x6 + 1)), l7, some (.int s0)]) am_cc1 rfl rfl dc292_16.2.1.2 ?_
    refine am_s_goto rfl dc292_16.2.2.1 ?_
    exact (vi_f q c1).2.2.2
-- waysOf (III)I
theorem v293_0 {sc : Option (Nat × (Nat → Int32))} {d k n : Nat} {P : am_O → Prop} {I : am_I} {J : am_J} {Pf : am_R} (hp : am_PF Pf) {x1 : Int32} {x2 : Int32} {x3 : Int32} {l4 : Option Value} {l5 : Option Value} (q : (am_in ((((((0 : Int32) * 8) + x1) * 625) + (x2 * 25)) + x3) 20000 = true) ∧ (if (I 184 (Int32.toNatClampNeg ((((((0 : Int32) * 8) + x1) * 625) + (x2 * 25)) + x3))) ≤ 0 then (P (.inl (some (.int 0)), (am_SH, I, J, Pf), k, n)) else (am_go sc (d + 2) 293 (19, [some (.ref 163), some (.int x1), some (.int x2), some (.int x3), some (.int 0), some (.int 0)], [], (am_SH, I, J, Pf), k, n) P))) : am_go sc (d + 2) 293 (0, [some (.ref 163), some (.int x1), some (.int x2), some (.int x3), l4, l5], [], (am_SH, I, J, Pf), k, n) P := by
  refine am_s_aload_n rfl dc293_0.1.1.1 ?_
  refine am_s_iconst am_cc0 dc293_0.1.1.2 ?_
  refine am_s_iload_n rfl dc293_0.1.2.1 ?_
  refine am_s_iload_n rfl dc293_0.1.2.2 ?_
  refine am_s_iload_n rfl dc293_0.2.1.1 ?_
  refine am_s_virtual true dc293_0.2.1.2 rfl (by decide) rfl rfl rfl (am_mth_of rfl rfl ?_)
  refine am_s_aload_n rfl dc257_0.1.1.1 ?_
  refine am_s_getR (r := 184) dc257_0.1.1.2 rfl rfl rfl (hp _ _ _ rfl) ?_
  refine am_s_iload_n rfl dc257_0.1.2.1 ?_
  refine am_s_iload_n rfl dc257_0.1.2.2 ?_
  refine am_s_iload_n rfl dc257_0.2.1.1 ?_
  refine am_s_iload rfl dc257_0.2.1.2 ?_
  refine am_s_static dc257_0.2.2.1 rfl rfl rfl (am_mth_of rfl rfl ?_)
  refine am_s_iload_n rfl dc256_0.1.1.1 ?_
  refine am_s_bipush am_cb8 dc256_0.1.1.2 ?_
  refine am_s_imul dc256_0.1.2.1 ?_
  refine am_s_iload_n rfl dc256_0.1.2.2 ?_
  refine am_s_iadd dc256_0.2.1.1 ?_
  refine am_s_sipush am_cs625 dc256_0.2.1.2 ?_
  refine am_s_imul dc256_0.2.2.1 ?_
  refine am_s_iload_n rfl dc256_0.2.2.2 ?_
  refine am_s_bipush am_cb25 dc256_1.1.1 ?_
  refine am_s_imul dc256_1.1.2.1 ?_
  refine am_s_iadd dc256_1.1.2.2 ?_
  refine am_s_iload_n rfl dc256_1.2.1 ?_
  refine am_s_iadd dc256_1.2.2.1 ?_
  refine am_s_ireturn dc256_1.2.2.2 rfl (am_bkI ?_)
  refine am_x_iaload (x := I 184 (Int32.toNatClampNeg ((((((0 : Int32) * 8) + x1) * 625) + (x2 * 25)) + x3))) dc257_0.2.2.2 rfl (q.1) rfl rfl ?_
  refine am_s_if_le dc257_1.1.1 rfl (fun c1 => ?_) (fun c1 => ?_)
  · refine am_s_iconst am_cc0 dc257_1.2.2.1 ?_
    refine am_s_zreturn dc257_1.2.2.2 rfl (by decide) (am_bkI ?_)
    refine am_s_if_ne dc293_0.2.2.1 rfl (fun z => absurd z (by decide)) (fun _ => ?_)
    refine am_s_iconst am_cc0 dc293_0.2.2.2 ?_
    exact am_s_ireturn dc293_1.1.1.1 rfl ((vi_t q.2 c1))
  · refine am_s_iconst am_cc1 dc257_1.1.2 ?_
    refine am_s_goto rfl dc257_1.2.1 ?_
    refine am_s_zreturn dc257_1.2.2.2 rfl (by decide) (am_bkI ?_)
    refine am_s_if_ne dc293_0.2.2.1 rfl (fun _ => ?_) (fun z => absurd z (by decide))
    refine am_s_iconst am_cc0 dc293_1.1.1.2 ?_
    refine am_s_istore (ls' := [some (.ref 163), some (.int x1), some (.int x2), some (.int x3), some (.int 0), l5]) rfl rfl dc293_1.1.2.1 ?_
    refine am_s_iconst am_cc0 dc293_1.1.2.2 ?_
    refine am_s_istore (ls' := [some (.ref 163), some (.int x1), some (.int x2), some (.int x3), some (.int 0), some (.int 0)]) rfl rfl dc293_1.2.1.1 ?_
    exact (vi_f q.2 c1)
theorem v293_19 {sc : Option (Nat × (Nat → Int32))} {d k n : Nat} {P : am_O → Prop} {I : am_I} {J : am_J} {Pf : am_R} (hp : am_PF Pf) {x1 : Int32} {x2 : Int32} {x3 : Int32} {x4 : Int32} {x5 : Int32} (q : (if (I 167 1) ≤ x5 then (am_go sc d 293 (72, [some (.ref 163), some (.int x1), some (.int x2), some (.int x3), some (.int x4), some (.int 0)], [], (am_SH, I, J, Pf), k, n) P) else (am_in (32 + (3 * x5)) 1040 = true) ∧ (if (I 167 (Int32.toNatClampNeg (32 + (3 * x5)))) = x1 then (am_mth d 292 [.ref 163, .int x5, .int x2, .int x3] (am_SH, I, J, Pf) (am_af sc d 293 53 [some (.ref 163), some (.int x1), some (.int x2), some (.int x3), some (.int x4), some (.int x5)] [.int x3, .int x2, .int x5, .ref 163, .int x4] [.int x4] (am_SH, I, J, Pf) k n true P)) else (am_go sc d 293 (19, [some (.ref 163), some (.int x1), some (.int x2), some (.int x3), some (.int (x4 + 0)), some (.int (x5 + 1))], [], (am_SH, I, J, Pf), k, n) P)))) : am_go sc d 293 (19, [some (.ref 163), some (.int x1), some (.int x2), some (.int x3), some (.int x4), some (.int x5)], [], (am_SH, I, J, Pf), k, n) P := by
  refine am_s_iload rfl dc293_1.2.1.2 ?_
  refine am_s_aload_n rfl dc293_1.2.2.1 ?_
  refine am_s_getR (r := 167) dc293_1.2.2.2 rfl rfl rfl (hp _ _ _ rfl) ?_
  refine am_s_iconst am_cc1 dc293_2.1.1.1 ?_
  refine am_x_iaload (x := I 167 1) dc293_2.1.1.2 rfl (by decide +kernel) am_cN1 rfl ?_
  refine am_s_ic_ge dc293_2.1.2.1 rfl (fun c1 => ?_) (fun c1 => ?_)
  · refine am_s_iconst am_cc0 dc293_5.1.1.2 ?_
    refine am_s_istore (ls' := [some (.ref 163), some (.int x1), some (.int x2), some (.int x3), some (.int x4), some (.int 0)]) rfl rfl dc293_5.1.2.1 ?_
    exact (vi_t q c1)
  · refine am_s_iload rfl dc293_2.1.2.2 ?_
    refine am_s_aload_n rfl dc293_2.2.1.1 ?_
    refine am_s_getR (r := 167) dc293_2.2.1.2 rfl rfl rfl (hp _ _ _ rfl) ?_
    refine am_s_bipush am_cb32 dc293_2.2.2.1 ?_
    refine am_s_iconst am_cc3 dc293_2.2.2.2 ?_
    refine am_s_iload rfl dc293_3.1.1.1 ?_
    refine am_s_imul dc293_3.1.1.2 ?_
    refine am_s_iadd dc293_3.1.2.1 ?_
    refine am_x_iaload (x := I 167 (Int32.toNatClampNeg (32 + (3 * x5)))) dc293_3.1.2.2 rfl ((vi_f q c1).1) rfl rfl ?_
    refine am_s_iload_n rfl dc293_3.2.1.1 ?_
    refine am_s_ic_ne dc293_3.2.1.2 rfl (fun c2 => ?_) (fun c2 => ?_)
    · refine am_s_iconst am_cc0 dc293_4.2.1.1 ?_
      refine am_s_iadd dc293_4.2.1.2 ?_
      refine am_s_istore (ls' := [some (.ref 163), some (.int x1), some (.int x2), some (.int x3), some (.int (x4 + 0)), some (.int x5)]) rfl rfl dc293_4.2.2.1 ?_
      refine am_s_iinc (ls' := [some (.ref 163), some (.int x1), some (.int x2), some (.int x3), some (.int (x4 + 0)), some (.int (x5 + 1))]) am_cc1 rfl rfl dc293_4.2.2.2 ?_
      refine am_s_goto rfl dc293_5.1.1.1 ?_
      exact (vi_f (vi_f q c1).2 c2)
    · refine am_s_aload_n rfl dc293_3.2.2.1 ?_
      refine am_s_iload rfl dc293_3.2.2.2 ?_
      refine am_s_iload_n rfl dc293_4.1.1.1 ?_
      refine am_s_iload_n rfl dc293_4.1.1.2 ?_
      exact am_s_virtual true dc293_4.1.2.1 rfl (by decide) rfl rfl rfl ((vi_t (vi_f q c1).2 (Decidable.not_not.mp c2)))
theorem v293_72 {sc : Option (Nat × (Nat → Int32))} {d k n : Nat} {P : am_O → Prop} {I : am_I} {J : am_J} {Pf : am_R} (hp : am_PF Pf) {x1 : Int32} {x2 : Int32} {x3 : Int32} {x4 : Int32} {x5 : Int32} (q : (if (I 167 2) ≤ x5 then (if x4 ≤ 9999 then (P (.inl (some (.int x4)), (am_SH, I, J, Pf), k, n)) else (P (.inl (some (.int 9999)), (am_SH, I, J, Pf), k, n))) else (if 24 ≤ x2 then (if x4 ≤ 9999 then (P (.inl (some (.int x4)), (am_SH, I, J, Pf), k, n)) else (P (.inl (some (.int 9999)), (am_SH, I, J, Pf), k, n))) else (am_in (972 + (5 * x5)) 1040 = true) ∧ (if (I 167 (Int32.toNatClampNeg (972 + (5 * x5)))) = x1 then (am_in ((x5 * 24) + x2) 384 = true) ∧ (if (I 186 (Int32.toNatClampNeg ((x5 * 24) + x2))) = 0 then (am_go sc d 293 (72, [some (.ref 163), some (.int x1), some (.int x2), some (.int x3), some (.int (x4 + 0)), some (.int (x5 + 1))], [], (am_SH, I, J, Pf), k, n) P) else (am_in ((x5 * 24) + x2) 384 = true) ∧ (if (I 185 (Int32.toNatClampNeg ((x5 * 24) + x2))) = x3 then (am_go sc d 293 (72, [some (.ref 163), some (.int x1), some (.int x2), some (.int x3), some (.int (x4 + 1)), some (.int (x5 + 1))], [], (am_SH, I, J, Pf), k, n) P) else (am_go sc d 293 (72, [some (.ref 163), some (.int x1), some (.int x2), some (.int x3), some (.int (x4 + 0)), some (.int (x5 + 1))], [], (am_SH, I, J, Pf), k, n) P))) else (am_go sc d 293 (72, [some (.ref 163), some (.int x1), some (.int x2), some (.int x3), some (.int (x4 + 0)), some (.int (x5 + 1))], [], (am_SH, I, J, Pf), k, n) P))))) : am_go sc d 293 (72, [some (.ref 163), some (.int x1), some (.int x2), some (.int x3), some (.int x4), some (.int x5)], [], (am_SH, I, J, Pf), k, n) P := by
  refine am_s_iload rfl dc293_5.1.2.2 ?_
  refine am_s_aload_n rfl dc293_5.2.1.1 ?_
  refine am_s_getR (r := 167) dc293_5.2.1.2 rfl rfl rfl (hp _ _ _ rfl) ?_
  refine am_s_iconst am_cc2 dc293_5.2.2.1 ?_
  refine am_x_iaload (x := I 167 2) dc293_5.2.2.2 rfl (by decide +kernel) am_cN2 rfl ?_
  refine am_s_ic_ge dc293_6.1.1.1 rfl (fun c1 => ?_) (fun c1 => ?_)
  · refine am_s_iload rfl dc293_11.1.1.2 ?_
    refine am_s_sipush am_cs9999 dc293_11.1.2.1 ?_
    refine am_s_ic_le dc293_11.1.2.2 rfl (fun c2 => ?_) (fun c2 => ?_)
    · refine am_s_iload rfl dc293_11.2.2.1 ?_
      exact am_s_ireturn dc293_11.2.2.2 rfl ((vi_t (vi_t q c1) c2))
    · refine am_s_sipush am_cs9999 dc293_11.2.1.1 ?_
      refine am_s_goto rfl dc293_11.2.1.2 ?_
      exact am_s_ireturn dc293_11.2.2.2 rfl ((vi_f (vi_t q c1) c2))
  · refine am_s_iload_n rfl dc293_6.1.1.2 ?_
    refine am_s_bipush am_cb24 dc293_6.1.2.1 ?_
    refine am_s_ic_ge dc293_6.1.2.2 rfl (fun c2 => ?_) (fun c2 => ?_)
    · refine am_s_iload rfl dc293_11.1.1.2 ?_
      refine am_s_sipush am_cs9999 dc293_11.1.2.1 ?_
      refine am_s_ic_le dc293_11.1.2.2 rfl (fun c3 => ?_) (fun c3 => ?_)
      · refine am_s_iload rfl dc293_11.2.2.1 ?_
        exact am_s_ireturn dc293_11.2.2.2 rfl ((vi_t (vi_t (vi_f q c1) c2) c3))
      · refine am_s_sipush am_cs9999 dc293_11.2.1.1 ?_
        refine am_s_goto rfl dc293_11.2.1.2 ?_
        exact am_s_ireturn dc293_11.2.2.2 rfl ((vi_f (vi_t (vi_f q c1) c2) c3))
    · refine am_s_iload rfl dc293_6.2.1.1 ?_
      refine am_s_aload_n rfl dc293_6.2.1.2 ?_
      refine am_s_getR (r := 167) dc293_6.2.2.1 rfl rfl rfl (hp _ _ _ rfl) ?_
      refine am_s_sipush am_cs972 dc293_6.2.2.2 ?_
      refine am_s_iconst am_cc5 dc293_7.1.1.1 ?_
      refine am_s_iload rfl dc293_7.1.1.2 ?_
      refine am_s_imul dc293_7.1.2.1 ?_
      refine am_s_iadd dc293_7.1.2.2 ?_
      refine am_x_iaload (x := I 167 (Int32.toNatClampNeg (972 + (5 * x5)))) dc293_7.2.1.1 rfl ((vi_f (vi_f q c1) c2).1) rfl rfl ?_
      refine am_s_iload_n rfl dc293_7.2.1.2 ?_
      refine am_s_ic_ne dc293_7.2.2.1 rfl (fun c3 => ?_) (fun c3 => ?_)
      · refine am_s_iconst am_cc0 dc293_10.2.1.1 ?_
        refine am_s_iadd dc293_10.2.1.2 ?_
        refine am_s_istore (ls' := [some (.ref 163), some (.int x1), some (.int x2), some (.int x3), some (.int (x4 + 0)), some (.int x5)]) rfl rfl dc293_10.2.2.1 ?_
        refine am_s_iinc (ls' := [some (.ref 163), some (.int x1), some (.int x2), some (.int x3), some (.int (x4 + 0)), some (.int (x5 + 1))]) am_cc1 rfl rfl dc293_10.2.2.2 ?_
        refine am_s_goto rfl dc293_11.1.1.1 ?_
        exact (vi_f (vi_f (vi_f q c1) c2).2 c3)
      · refine am_s_aload_n rfl dc293_7.2.2.2 ?_
        refine am_s_getR (r := 186) dc293_8.1.1.1 rfl rfl rfl (hp _ _ _ rfl) ?_
        refine am_s_iload rfl dc293_8.1.1.2 ?_
        refine am_s_bipush am_cb24 dc293_8.1.2.1 ?_
        refine am_s_imul dc293_8.1.2.2 ?_
        refine am_s_iload_n rfl dc293_8.2.1.1 ?_
        refine am_s_iadd dc293_8.2.1.2 ?_
        refine am_x_baload (x := I 186 (Int32.toNatClampNeg ((x5 * 24) + x2))) dc293_8.2.2.1 rfl ((vi_t (vi_f (vi_f q c1) c2).2 (Decidable.not_not.mp c3)).1) rfl rfl ?_
        refine am_s_if_eq dc293_8.2.2.2 rfl (fun c4 => ?_) (fun c4 => ?_)
        · refine am_s_iconst am_cc0 dc293_10.2.1.1 ?_
          refine am_s_iadd dc293_10.2.1.2 ?_
          refine am_s_istore (ls' := [some (.ref 163), some (.int x1), some (.int x2), some (.int x3), some (.int (x4 + 0)), some (.int x5)]) rfl rfl dc293_10.2.2.1 ?_
          refine am_s_iinc (ls' := [some (.ref 163), some (.int x1), some (.int x2), some (.int x3), some (.int (x4 + 0)), some (.int (x5 + 1))]) am_cc1 rfl rfl dc293_10.2.2.2 ?_
          refine am_s_goto rfl dc293_11.1.1.1 ?_
          exact (vi_t (vi_t (vi_f (vi_f q c1) c2).2 (Decidable.not_not.mp c3)).2 c4)
        · refine am_s_aload_n rfl dc293_9.1.1.1 ?_
          refine am_s_getR (r := 185) dc293_9.1.1.2 rfl rfl rfl (hp _ _ _ rfl) ?_
          refine am_s_iload rfl dc293_9.1.2.1 ?_
          refine am_s_bipush am_cb24 dc293_9.1.2.2 ?_
          refine am_s_imul dc293_9.2.1.1 ?_
          refine am_s_iload_n rfl dc293_9.2.1.2 ?_
          refine am_s_iadd dc293_9.2.2.1 ?_
          refine am_x_iaload (x := I 185 (Int32.toNatClampNeg ((x5 * 24) + x2))) dc293_9.2.2.2 rfl ((vi_f (vi_t (vi_f (vi_f q c1) c2).2 (Decidable.not_not.mp c3)).2 c4).1) rfl rfl ?_
          refine am_s_iload_n rfl dc293_10.1.1.1 ?_
          refine am_s_ic_ne dc293_10.1.1.2 rfl (fun c5 => ?_) (fun c5 => ?_)
          · refine am_s_iconst am_cc0 dc293_10.2.1.1 ?_
            refine am_s_iadd dc293_10.2.1.2 ?_
            refine am_s_istore (ls' := [some (.ref 163), some (.int x1), some (.int x2), some (.int x3), some (.int (x4 + 0)), some (.int x5)]) rfl rfl dc293_10.2.2.1 ?_
            refine am_s_iinc (ls' := [some (.ref 163), some (.int x1), some (.int x2), some (.int x3), some (.int (x4 + 0)), some (.int (x5 + 1))]) am_cc1 rfl rfl dc293_10.2.2.2 ?_
            refine am_s_goto rfl dc293_11.1.1.1 ?_
            exact (vi_f (vi_f (vi_t (vi_f (vi_f q c1) c2).2 (Decidable.not_not.mp c3)).2 c4).2 c5)
          · refine am_s_iconst am_cc1 dc293_10.1.2.1 ?_
            refine am_s_goto rfl dc293_10.1.2.2 ?_
            refine am_s_iadd dc293_10.2.1.2 ?_
            refine am_s_istore (ls' := [some (.ref 163), some (.int x1), some (.int x2), some (.int x3), some (.int (x4 + 1)), some (.int x5)]) rfl rfl dc293_10.2.2.1 ?_
            refine am_s_iinc (ls' := [some (.ref 163), some (.int x1), some (.int x2), some (.int x3), some (.int (x4 + 1)), some (.int (x5 + 1))]) am_cc1 rfl rfl dc293_10.2.2.2 ?_
            refine am_s_goto rfl dc293_11.1.1.1 ?_
            exact (vi_t (vi_f (vi_t (vi_f (vi_f q c1) c2).2 (Decidable.not_not.mp c3)).2 c4).2 (Decidable.not_not.mp c5))
theorem v293_56 {sc : Option (Nat × (Nat → Int32))} {d k n : Nat} {P : am_O → Prop} {I : am_I} {J : am_J} {Pf : am_R} (hp : am_PF Pf) {x1 : Int32} {x2 : Int32} {x3 : Int32} {l4 : Option Value} {x5 : Int32} {s0 : Int32} {s1 : Int32} (q : (am_go sc d 293 (19, [some (.ref 163), some (.int x1), some (.int x2), some (.int x3), some (.int (s0 + s1)), some (.int (x5 + 1))], [], (am_SH, I, J, Pf), k, n) P)) : am_go sc d 293 (56, [some (.ref 163), some (.int x1), some (.int x2), some (.int x3), l4, some (.int x5)], [.int s1, .int s0], (am_SH, I, J, Pf), k, n) P := by
  refine am_s_goto rfl dc293_4.1.2.2 ?_
  refine am_s_iadd dc293_4.2.1.2 ?_
  refine am_s_istore (ls' := [some (.ref 163), some (.int x1), some (.int x2), some (.int x3), some (.int (s0 + s1)), some (.int x5)]) rfl rfl dc293_4.2.2.1 ?_
  refine am_s_iinc (ls' := [some (.ref 163), some (.int x1), some (.int x2), some (.int x3), some (.int (s0 + s1)), some (.int (x5 + 1))]) am_cc1 rfl rfl dc293_4.2.2.2 ?_
  refine am_s_goto rfl dc293_5.1.1.1 ?_
  exact q
-- ways (III)I
theorem v294_0 {sc : Option (Nat × (Nat → Int32))} {d k n : Nat} {P : am_O → Prop} {I : am_I} {J : am_J} {Pf : am_R} (hp : am_PF Pf) {x1 : Int32} {x2 : Int32} {x3 : Int32} (q : (am_mth d 289 [.ref 163, .int x1, .int x2, .int x3] (am_SH, am_u I 163 0 0, J, Pf) (am_af sc d 294 9 [some (.ref 163), some (.int x1), some (.int x2), some (.int x3)] [.int x3, .int x2, .int x1, .ref 163] [] (am_SH, am_u I 163 0 0, J, Pf) k n true P))) : am_go sc d 294 (0, [some (.ref 163), some (.int x1), some (.int x2), some (.int x3)], [], (am_SH, I, J, Pf), k, n) P := by
  refine am_s_aload_n rfl dc294_0.1.1.1 ?_
  refine am_s_iconst am_cc0 dc294_0.1.1.2 ?_
  refine am_s_putI dc294_0.1.2.1 rfl rfl rfl rfl ?_
  refine am_s_aload_n rfl dc294_0.1.2.2 ?_
  refine am_s_iload_n rfl dc294_0.2.1.1 ?_
  refine am_s_iload_n rfl dc294_0.2.1.2 ?_
  refine am_s_iload_n rfl dc294_0.2.2.1 ?_
  exact am_s_virtual true dc294_0.2.2.2 rfl (by decide) rfl rfl rfl (q)
theorem v294_12 {sc : Option (Nat × (Nat → Int32))} {d k n : Nat} {P : am_O → Prop} {I : am_I} {J : am_J} {Pf : am_R} (hp : am_PF Pf) {x1 : Int32} {x2 : Int32} {x3 : Int32} {s0 : Int32} (q : (if s0 = 0 then (P (.inl (some (.int 0)), (am_SH, I, J, Pf), k, n)) else (am_mth d 271 [.ref 163] (am_SH, I, J, Pf) (am_af sc d 294 18 [some (.ref 163), some (.int x1), some (.int x2), some (.int x3)] [.ref 163] [] (am_SH, I, J, Pf) k n true P)))) : am_go sc d 294 (12, [some (.ref 163), some (.int x1), some (.int x2), some (.int x3)], [.int s0], (am_SH, I, J, Pf), k, n) P := by
  refine am_s_if_ne dc294_1.1.1.1 rfl (fun c1 => ?_) (fun c1 => ?_)
  · refine am_s_aload_n rfl dc294_1.1.2.2 ?_
    exact am_s_virtual true dc294_1.2.1.1 rfl (by decide) rfl rfl rfl ((vi_f q c1))
  · refine am_s_iconst am_cc0 dc294_1.1.1.2 ?_
    exact am_s_ireturn dc294_1.1.2.1 rfl ((vi_t q (Decidable.not_not.mp c1)))
theorem v294_21 {sc : Option (Nat × (Nat → Int32))} {d k n : Nat} {P : am_O → Prop} {I : am_I} {J : am_J} {Pf : am_R} (hp : am_PF Pf) {x1 : Int32} {x2 : Int32} {x3 : Int32} (q : (am_mth d 293 [.ref 163, .int x1, .int x2, .int x3] (am_SH, I, J, Pf) (am_af sc d 294 25 [some (.ref 163), some (.int x1), some (.int x2), some (.int x3)] [.int x3, .int x2, .int x1, .ref 163] [] (am_SH, I, J, Pf) k n true P))) : am_go sc d 294 (21, [some (.ref 163), some (.int x1), some (.int x2), some (.int x3)], [], (am_SH, I, J, Pf), k, n) P := by
  refine am_s_aload_n rfl dc294_1.2.1.2 ?_
  refine am_s_iload_n rfl dc294_1.2.2.1 ?_
  refine am_s_iload_n rfl dc294_1.2.2.2 ?_
  refine am_s_iload_n rfl dc294_2.1 ?_
  exact am_s_virtual true dc294_2.2.1 rfl (by decide) rfl rfl rfl (q)
theorem v294_28 {sc : Option (Nat × (Nat → Int32))} {d k n : Nat} {P : am_O → Prop} {I : am_I} {J : am_J} {Pf : am_R} (hp : am_PF Pf) {l0 : Option Value} {l1 : Option Value} {l2 : Option Value} {l3 : Option Value} {s0 : Int32} (q : (P (.inl (some (.int s0)), (am_SH, I, J, Pf), k, n))) : am_go sc d 294 (28, [l0, l1, l2, l3], [.int s0], (am_SH, I, J, Pf), k, n) P := by
  exact am_s_ireturn dc294_2.2.2 rfl (q)
-- height (III)I
theorem v295_0 {sc : Option (Nat × (Nat → Int32))} {d k n : Nat} {P : am_O → Prop} {I : am_I} {J : am_J} {Pf : am_R} (hp : am_PF Pf) {x1 : Int32} {x2 : Int32} {x3 : Int32} (q : (am_mth d 289 [.ref 163, .int x1, .int x2, .int x3] (am_SH, am_u I 163 0 0, J, Pf) (am_af sc d 295 9 [some (.ref 163), some (.int x1), some (.int x2), some (.int x3)] [.int x3, .int x2, .int x1, .ref 163] [] (am_SH, am_u I 163 0 0, J, Pf) k n true P))) : am_go sc d 295 (0, [some (.ref 163), some (.int x1), some (.int x2), some (.int x3)], [], (am_SH, I, J, Pf), k, n) P := by
  refine am_s_aload_n rfl dc295_0.1.1.1 ?_
  refine am_s_iconst am_cc0 dc295_0.1.1.2 ?_
  refine am_s_putI dc295_0.1.2.1 rfl rfl rfl rfl ?_
  refine am_s_aload_n rfl dc295_0.1.2.2 ?_
  refine am_s_iload_n rfl dc295_0.2.1.1 ?_
  refine am_s_iload_n rfl dc295_0.2.1.2 ?_
  refine am_s_iload_n rfl dc295_0.2.2.1 ?_
  exact am_s_virtual true dc295_0.2.2.2 rfl (by decide) rfl rfl rfl (q)
theorem v295_12 {sc : Option (Nat × (Nat → Int32))} {d k n : Nat} {P : am_O → Prop} {I : am_I} {J : am_J} {Pf : am_R} (hp : am_PF Pf) {x1 : Int32} {x2 : Int32} {x3 : Int32} {s0 : Int32} (q : (if s0 = 0 then (P (.inl (some (.int 0)), (am_SH, I, J, Pf), k, n)) else (am_mth d 271 [.ref 163] (am_SH, I, J, Pf) (am_af sc d 295 18 [some (.ref 163), some (.int x1), some (.int x2), some (.int x3)] [.ref 163] [] (am_SH, I, J, Pf) k n true P)))) : am_go sc d 295 (12, [some (.ref 163), some (.int x1), some (.int x2), some (.int x3)], [.int s0], (am_SH, I, J, Pf), k, n) P := by
  refine am_s_if_ne dc295_1.1.1.1 rfl (fun c1 => ?_) (fun c1 => ?_)
  · refine am_s_aload_n rfl dc295_1.1.2.2 ?_
    exact am_s_virtual true dc295_1.2.1.1 rfl (by decide) rfl rfl rfl ((vi_f q c1))
  · refine am_s_iconst am_cc0 dc295_1.1.1.2 ?_
    exact am_s_ireturn dc295_1.1.2.1 rfl ((vi_t q (Decidable.not_not.mp c1)))
theorem v295_21 {sc : Option (Nat × (Nat → Int32))} {d k n : Nat} {P : am_O → Prop} {I : am_I} {J : am_J} {Pf : am_R} (hp : am_PF Pf) {x1 : Int32} {x2 : Int32} {x3 : Int32} (q : (am_in ((((((0 : Int32) * 8) + x1) * 625) + (x2 * 25)) + x3) 20000 = true) ∧ (if (I 184 (Int32.toNatClampNeg ((((((0 : Int32) * 8) + x1) * 625) + (x2 * 25)) + x3))) ≤ 0 then (P (.inl (some (.int (-1))), (am_SH, I, J, Pf), k, n)) else (am_in ((((((0 : Int32) * 8) + x1) * 625) + (x2 * 25)) + x3) 20000 = true) ∧ (P (.inl (some (.int (I 184 (Int32.toNatClampNeg ((((((0 : Int32) * 8) + x1) * 625) + (x2 * 25)) + x3))))), (am_SH, I, J, Pf), k, n)))) : am_go sc (d + 2) 295 (21, [some (.ref 163), some (.int x1), some (.int x2), some (.int x3)], [], (am_SH, I, J, Pf), k, n) P := by
  refine am_s_aload_n rfl dc295_1.2.1.2 ?_
  refine am_s_iconst am_cc0 dc295_1.2.2.1 ?_
  refine am_s_iload_n rfl dc295_1.2.2.2 ?_
  refine am_s_iload_n rfl dc295_2.1.1.1 ?_
  refine am_s_iload_n rfl dc295_2.1.1.2 ?_
  refine am_s_virtual true dc295_2.1.2.1 rfl (by decide) rfl rfl rfl (am_mth_of rfl rfl ?_)
  refine am_s_aload_n rfl dc257_0.1.1.1 ?_
  refine am_s_getR (r := 184) dc257_0.1.1.2 rfl rfl rfl (hp _ _ _ rfl) ?_
  refine am_s_iload_n rfl dc257_0.1.2.1 ?_
  refine am_s_iload_n rfl dc257_0.1.2.2 ?_
  refine am_s_iload_n rfl dc257_0.2.1.1 ?_
  refine am_s_iload rfl dc257_0.2.1.2 ?_
  refine am_s_static dc257_0.2.2.1 rfl rfl rfl (am_mth_of rfl rfl ?_)
  refine am_s_iload_n rfl dc256_0.1.1.1 ?_
  refine am_s_bipush am_cb8 dc256_0.1.1.2 ?_
  refine am_s_imul dc256_0.1.2.1 ?_
  refine am_s_iload_n rfl dc256_0.1.2.2 ?_
  refine am_s_iadd dc256_0.2.1.1 ?_
  refine am_s_sipush am_cs625 dc256_0.2.1.2 ?_
  refine am_s_imul dc256_0.2.2.1 ?_
  refine am_s_iload_n rfl dc256_0.2.2.2 ?_
  refine am_s_bipush am_cb25 dc256_1.1.1 ?_
  refine am_s_imul dc256_1.1.2.1 ?_
  refine am_s_iadd dc256_1.1.2.2 ?_
  refine am_s_iload_n rfl dc256_1.2.1 ?_
  refine am_s_iadd dc256_1.2.2.1 ?_
  refine am_s_ireturn dc256_1.2.2.2 rfl (am_bkI ?_)
  refine am_x_iaload (x := I 184 (Int32.toNatClampNeg ((((((0 : Int32) * 8) + x1) * 625) + (x2 * 25)) + x3))) dc257_0.2.2.2 rfl (q.1) rfl rfl ?_
  refine am_s_if_le dc257_1.1.1 rfl (fun c1 => ?_) (fun c1 => ?_)
  · refine am_s_iconst am_cc0 dc257_1.2.2.1 ?_
    refine am_s_zreturn dc257_1.2.2.2 rfl (by decide) (am_bkI ?_)
    refine am_s_if_eq dc295_2.1.2.2 rfl (fun _ => ?_) (fun z => absurd z (by decide))
    refine am_s_iconst am_ccm1 dc295_3.2.2.1 ?_
    exact am_s_ireturn dc295_3.2.2.2 rfl ((vi_t q.2 c1))
  · refine am_s_iconst am_cc1 dc257_1.1.2 ?_
    refine am_s_goto rfl dc257_1.2.1 ?_
    refine am_s_zreturn dc257_1.2.2.2 rfl (by decide) (am_bkI ?_)
    refine am_s_if_eq dc295_2.1.2.2 rfl (fun z => absurd z (by decide)) (fun _ => ?_)
    refine am_s_aload_n rfl dc295_2.2.1.1 ?_
    refine am_s_getR (r := 184) dc295_2.2.1.2 rfl rfl rfl (hp _ _ _ rfl) ?_
    refine am_s_iconst am_cc0 dc295_2.2.2.1 ?_
    refine am_s_iload_n rfl dc295_2.2.2.2 ?_
    refine am_s_iload_n rfl dc295_3.1.1 ?_
    refine am_s_iload_n rfl dc295_3.1.2.1 ?_
    refine am_s_static dc295_3.1.2.2 rfl rfl rfl (am_mth_of rfl rfl ?_)
    refine am_s_iload_n rfl dc256_0.1.1.1 ?_
    refine am_s_bipush am_cb8 dc256_0.1.1.2 ?_
    refine am_s_imul dc256_0.1.2.1 ?_
    refine am_s_iload_n rfl dc256_0.1.2.2 ?_
    refine am_s_iadd dc256_0.2.1.1 ?_
    refine am_s_sipush am_cs625 dc256_0.2.1.2 ?_
    refine am_s_imul dc256_0.2.2.1 ?_
    refine am_s_iload_n rfl dc256_0.2.2.2 ?_
    refine am_s_bipush am_cb25 dc256_1.1.1 ?_
    refine am_s_imul dc256_1.1.2.1 ?_
    refine am_s_iadd dc256_1.1.2.2 ?_
    refine am_s_iload_n rfl dc256_1.2.1 ?_
    refine am_s_iadd dc256_1.2.2.1 ?_
    refine am_s_ireturn dc256_1.2.2.2 rfl (am_bkI ?_)
    refine am_x_iaload (x := I 184 (Int32.toNatClampNeg ((((((0 : Int32) * 8) + x1) * 625) + (x2 * 25)) + x3))) dc295_3.2.1.1 rfl ((vi_f q.2 c1).1) rfl rfl ?_
    refine am_s_goto rfl dc295_3.2.1.2 ?_
    exact am_s_ireturn dc295_3.2.2.2 rfl ((vi_f q.2 c1).2)
-- pieces (I)I
theorem v296_0 {sc : Option (Nat × (Nat → Int32))} {d k n : Nat} {P : am_O → Prop} {I : am_I} {J : am_J} {Pf : am_R} (hp : am_PF Pf) {x1 : Int32} (q : (if x1 < 0 then (P (.inl (some (.int 0)), (am_SH, am_u (am_u (am_u I 163 0 0) 163 0 1) 164 1 ((I 164 1) + 1), J, Pf), k, n)) else (if 7 < x1 then (P (.inl (some (.int 0)), (am_SH, am_u (am_u (am_u I 163 0 0) 163 0 1) 164 1 ((I 164 1) + 1), J, Pf), k, n)) else (am_mth (d + 1) 271 [.ref 163] (am_SH, am_u I 163 0 0, J, Pf) (am_af sc (d + 1) 296 24 [some (.ref 163), some (.int x1)] [.ref 163] [] (am_SH, am_u I 163 0 0, J, Pf) k n true P))))) : am_go sc (d + 1) 296 (0, [some (.ref 163), some (.int x1)], [], (am_SH, I, J, Pf), k, n) P := by
  refine am_s_aload_n rfl dc296_0.1.1.1 ?_
  refine am_s_iconst am_cc0 dc296_0.1.1.2 ?_
  refine am_s_putI dc296_0.1.2.1 rfl rfl rfl rfl ?_
  refine am_s_aload_n rfl dc296_0.1.2.2 ?_
  refine am_s_iload_n rfl dc296_0.2.1.1 ?_
  refine am_s_iconst am_cc0 dc296_0.2.1.2 ?_
  refine am_s_bipush am_cb7 dc296_0.2.2.1 ?_
  refine am_s_static dc296_0.2.2.2 rfl rfl rfl (am_mth_of rfl rfl ?_)
  refine am_s_iload_n rfl dc190_0.1.1.1 ?_
  refine am_s_iload_n rfl dc190_0.1.1.2 ?_
  refine am_s_ic_lt dc190_0.1.2.1 rfl (fun c1 => ?_) (fun c1 => ?_)
  · refine am_s_iconst am_cc0 dc190_1.1 ?_
    refine am_s_zreturn dc190_1.2 rfl (by decide) (am_bkI ?_)
    refine am_s_iconst am_cc1 dc296_1.1.1.1 ?_
    refine am_s_iconst am_cc1 dc296_1.1.1.2 ?_
    refine am_s_virtual true dc296_1.1.2.1 rfl (by decide) rfl rfl rfl (am_mth_of rfl rfl ?_)
    refine am_s_iload_n rfl dc189_0.1.1.1 ?_
    refine am_s_if_ne dc189_0.1.1.2 rfl (fun z => absurd z (by decide)) (fun _ => ?_)
    refine am_s_aload_n rfl dc189_0.1.2.1 ?_
    refine am_x_getI (x := 0) dc189_0.1.2.2 rfl rfl (Or.inl rfl) rfl ?_
    refine am_s_if_ne dc189_0.2.1.1 rfl (fun z => absurd z (by decide)) (fun _ => ?_)
    refine am_s_aload_n rfl dc189_0.2.1.2 ?_
    refine am_s_iload_n rfl dc189_0.2.2.1 ?_
    refine am_s_putI dc189_0.2.2.2 rfl rfl rfl rfl ?_
    refine am_s_aload_n rfl dc189_1.1.1.1 ?_
    refine am_s_getR (r := 164) dc189_1.1.1.2 rfl rfl rfl (hp _ _ _ rfl) ?_
    refine am_s_iload_n rfl dc189_1.1.2.1 ?_
    refine am_s_dup2 rfl rfl dc189_1.1.2.2 ?_
    refine am_x_iaload (x := I 164 1) dc189_1.2.1.1 rfl (by decide +kernel) am_cN1 rfl ?_
    refine am_s_iconst am_cc1 dc189_1.2.1.2 ?_
    refine am_s_iadd dc189_1.2.2.1 ?_
    refine am_s_iastore dc189_1.2.2.2 rfl (by decide +kernel) am_cN1 ?_
    refine am_s_aload_n rfl dc189_2.1.1 ?_
    refine am_x_getI (x := 1) dc189_2.1.2.1 rfl rfl (Or.inl rfl) rfl ?_
    refine am_s_if_ne dc189_2.1.2.2 rfl (fun _ => ?_) (fun z => absurd z (by decide))
    refine am_s_iconst am_cc0 dc189_2.2.2.1 ?_
    refine am_s_zreturn dc189_2.2.2.2 rfl (by decide) (am_bkI ?_)
    refine am_s_if_ne dc296_1.1.2.2 rfl (fun z => absurd z (by decide)) (fun _ => ?_)
    refine am_s_iconst am_cc0 dc296_1.2.1.1 ?_
    exact am_s_ireturn dc296_1.2.1.2 rfl ((vi_t q c1))
  · refine am_s_iload_n rfl dc190_0.1.2.2 ?_
    refine am_s_iload_n rfl dc190_0.2.1.1 ?_
    refine am_s_ic_gt dc190_0.2.1.2 rfl (fun c2 => ?_) (fun c2 => ?_)
    · refine am_s_iconst am_cc0 dc190_1.1 ?_
      refine am_s_zreturn dc190_1.2 rfl (by decide) (am_bkI ?_)
      refine am_s_iconst am_cc1 dc296_1.1.1.1 ?_
      refine am_s_iconst am_cc1 dc296_1.1.1.2 ?_
      refine am_s_virtual true dc296_1.1.2.1 rfl (by decide) rfl rfl rfl (am_mth_of rfl rfl ?_)
      refine am_s_iload_n rfl dc189_0.1.1.1 ?_
      refine am_s_if_ne dc189_0.1.1.2 rfl (fun z => absurd z (by decide)) (fun _ => ?_)
      refine am_s_aload_n rfl dc189_0.1.2.1 ?_
      refine am_x_getI (x := 0) dc189_0.1.2.2 rfl rfl (Or.inl rfl) rfl ?_
      refine am_s_if_ne dc189_0.2.1.1 rfl (fun z => absurd z (by decide)) (fun _ => ?_)
      refine am_s_aload_n rfl dc189_0.2.1.2 ?_
      refine am_s_iload_n rfl dc189_0.2.2.1 ?_
      refine am_s_putI dc189_0.2.2.2 rfl rfl rfl rfl ?_
      refine am_s_aload_n rfl dc189_1.1.1.1 ?_
      refine am_s_getR (r := 164) dc189_1.1.1.2 rfl rfl rfl (hp _ _ _ rfl) ?_
      refine am_s_iload_n rfl dc189_1.1.2.1 ?_
      refine am_s_dup2 rfl rfl dc189_1.1.2.2 ?_
      refine am_x_iaload (x := I 164 1) dc189_1.2.1.1 rfl (by decide +kernel) am_cN1 rfl ?_
      refine am_s_iconst am_cc1 dc189_1.2.1.2 ?_
      refine am_s_iadd dc189_1.2.2.1 ?_
      refine am_s_iastore dc189_1.2.2.2 rfl (by decide +kernel) am_cN1 ?_
      refine am_s_aload_n rfl dc189_2.1.1 ?_
      refine am_x_getI (x := 1) dc189_2.1.2.1 rfl rfl (Or.inl rfl) rfl ?_
      refine am_s_if_ne dc189_2.1.2.2 rfl (fun _ => ?_) (fun z => absurd z (by decide))
      refine am_s_iconst am_cc0 dc189_2.2.2.1 ?_
      refine am_s_zreturn dc189_2.2.2.2 rfl (by decide) (am_bkI ?_)
      refine am_s_if_ne dc296_1.1.2.2 rfl (fun z => absurd z (by decide)) (fun _ => ?_)
      refine am_s_iconst am_cc0 dc296_1.2.1.1 ?_
      exact am_s_ireturn dc296_1.2.1.2 rfl ((vi_t (vi_f q c1) c2))
    · refine am_s_iconst am_cc1 dc190_0.2.2.1 ?_
      refine am_s_goto rfl dc190_0.2.2.2 ?_
      refine am_s_zreturn dc190_1.2 rfl (by decide) (am_bkI ?_)
      refine am_s_iconst am_cc1 dc296_1.1.1.1 ?_
      refine am_s_iconst am_cc1 dc296_1.1.1.2 ?_
      refine am_s_virtual true dc296_1.1.2.1 rfl (by decide) rfl rfl rfl (am_mth_of rfl rfl ?_)
      refine am_s_iload_n rfl dc189_0.1.1.1 ?_
      refine am_s_if_ne dc189_0.1.1.2 rfl (fun _ => ?_) (fun z => absurd z (by decide))
      refine am_s_aload_n rfl dc189_2.1.1 ?_
      refine am_x_getI (x := 0) dc189_2.1.2.1 rfl rfl (Or.inl rfl) rfl ?_
      refine am_s_if_ne dc189_2.1.2.2 rfl (fun z => absurd z (by decide)) (fun _ => ?_)
      refine am_s_iconst am_cc1 dc189_2.2.1.1 ?_
      refine am_s_goto rfl dc189_2.2.1.2 ?_
      refine am_s_zreturn dc189_2.2.2.2 rfl (by decide) (am_bkI ?_)
      refine am_s_if_ne dc296_1.1.2.2 rfl (fun _ => ?_) (fun z => absurd z (by decide))
      refine am_s_aload_n rfl dc296_1.2.2.1 ?_
      exact am_s_virtual true dc296_1.2.2.2 rfl (by decide) rfl rfl rfl ((vi_f (vi_f q c1) c2))
theorem v296_27 {sc : Option (Nat × (Nat → Int32))} {d k n : Nat} {P : am_O → Prop} {I : am_I} {J : am_J} {Pf : am_R} (hp : am_PF Pf) {x1 : Int32} (q : (am_mth d 297 [.ref 163, .int x1] (am_SH, I, J, Pf) (am_af sc d 296 29 [some (.ref 163), some (.int x1)] [.int x1, .ref 163] [] (am_SH, I, J, Pf) k n true P))) : am_go sc d 296 (27, [some (.ref 163), some (.int x1)], [], (am_SH, I, J, Pf), k, n) P := by
  refine am_s_aload_n rfl dc296_2.1.1 ?_
  refine am_s_iload_n rfl dc296_2.1.2 ?_
  exact am_s_virtual true dc296_2.2.1 rfl (by decide) rfl rfl rfl (q)
theorem v296_32 {sc : Option (Nat × (Nat → Int32))} {d k n : Nat} {P : am_O → Prop} {I : am_I} {J : am_J} {Pf : am_R} (hp : am_PF Pf) {l0 : Option Value} {l1 : Option Value} {s0 : Int32} (q : (P (.inl (some (.int s0)), (am_SH, I, J, Pf), k, n))) : am_go sc d 296 (32, [l0, l1], [.int s0], (am_SH, I, J, Pf), k, n) P := by
  exact am_s_ireturn dc296_2.2.2 rfl (q)
-- piecesOf (I)I
theorem v297_0 {sc : Option (Nat × (Nat → Int32))} {d k n : Nat} {P : am_O → Prop} {I : am_I} {J : am_J} {Pf : am_R} (hp : am_PF Pf) {x1 : Int32} {l2 : Option Value} {l3 : Option Value} {l4 : Option Value} (q : (am_go sc d 297 (4, [some (.ref 163), some (.int x1), some (.int 0), some (.int 0), l4], [], (am_SH, I, J, Pf), k, n) P)) : am_go sc d 297 (0, [some (.ref 163), some (.int x1), l2, l3, l4], [], (am_SH, I, J, Pf), k, n) P := by
  refine am_s_iconst am_cc0 dc297_0.1.1.1 ?_
  refine am_s_istore_n (ls' := [some (.ref 163), some (.int x1), some (.int 0), l3, l4]) rfl rfl dc297_0.1.1.2 ?_
  refine am_s_iconst am_cc0 dc297_0.1.2.1 ?_
  refine am_s_istore_n (ls' := [some (.ref 163), some (.int x1), some (.int 0), some (.int 0), l4]) rfl rfl dc297_0.1.2.2 ?_
  exact q
theorem v297_4 {sc : Option (Nat × (Nat → Int32))} {d k n : Nat} {P : am_O → Prop} {I : am_I} {J : am_J} {Pf : am_R} (hp : am_PF Pf) {x1 : Int32} {x2 : Int32} {x3 : Int32} {l4 : Option Value} (q : (if (I 180 0) < x3 then (P (.inl (some (.int x2)), (am_SH, I, J, Pf), k, n)) else (am_go sc d 297 (17, [some (.ref 163), some (.int x1), some (.int x2), some (.int x3), some (.int x3)], [], (am_SH, I, J, Pf), k, n) P))) : am_go sc d 297 (4, [some (.ref 163), some (.int x1), some (.int x2), some (.int x3), l4], [], (am_SH, I, J, Pf), k, n) P := by
  refine am_s_iload_n rfl dc297_0.2.1.1 ?_
  refine am_s_aload_n rfl dc297_0.2.1.2 ?_
  refine am_s_getR (r := 180) dc297_0.2.2.1 rfl rfl rfl (hp _ _ _ rfl) ?_
  refine am_s_iconst am_cc0 dc297_0.2.2.2 ?_
  refine am_x_iaload (x := I 180 0) dc297_1.1.1.1 rfl (by decide +kernel) am_cN0 rfl ?_
  refine am_s_ic_gt dc297_1.1.1.2 rfl (fun c1 => ?_) (fun c1 => ?_)
  · refine am_s_iload_n rfl dc297_4.2.2.1 ?_
    exact am_s_ireturn dc297_4.2.2.2 rfl ((vi_t q c1))
  · refine am_s_iload_n rfl dc297_1.1.2.1 ?_
    refine am_s_istore (ls' := [some (.ref 163), some (.int x1), some (.int x2), some (.int x3), some (.int x3)]) rfl rfl dc297_1.1.2.2 ?_
    exact (vi_f q c1)
theorem v297_17 {sc : Option (Nat × (Nat → Int32))} {d k n : Nat} {P : am_O → Prop} {I : am_I} {J : am_J} {Pf : am_R} (hp : am_PF Pf) {x1 : Int32} {x2 : Int32} {x3 : Int32} {x4 : Int32} (q : (if (I 180 0) < x4 then (am_go sc (d + 2) 297 (4, [some (.ref 163), some (.int x1), some (.int x2), some (.int (x3 + 1)), some (.int x4)], [], (am_SH, I, J, Pf), k, n) P) else (am_in ((((((0 : Int32) * 8) + x1) * 625) + (x3 * 25)) + x4) 20000 = true) ∧ (if (I 184 (Int32.toNatClampNeg ((((((0 : Int32) * 8) + x1) * 625) + (x3 * 25)) + x4))) ≤ 0 then (am_go sc (d + 2) 297 (17, [some (.ref 163), some (.int x1), some (.int (x2 + 0)), some (.int x3), some (.int (x4 + 1))], [], (am_SH, I, J, Pf), k, n) P) else (am_go sc (d + 2) 297 (17, [some (.ref 163), some (.int x1), some (.int (x2 + 1)), some (.int x3), some (.int (x4 + 1))], [], (am_SH, I, J, Pf), k, n) P)))) : am_go sc (d + 2) 297 (17, [some (.ref 163), some (.int x1), some (.int x2), some (.int x3), some (.int x4)], [], (am_SH, I, J, Pf), k, n) P := by
  refine am_s_iload rfl dc297_1.2.1.1 ?_
  refine am_s_aload_n rfl dc297_1.2.1.2 ?_
  refine am_s_getR (r := 180) dc297_1.2.2.1 rfl rfl rfl (hp _ _ _ rfl) ?_
  refine am_s_iconst am_cc0 dc297_1.2.2.2 ?_
  refine am_x_iaload (x := I 180 0) dc297_2.1.1.1 rfl (by decide +kernel) am_cN0 rfl ?_
  refine am_s_ic_gt dc297_2.1.1.2 rfl (fun c1 => ?_) (fun c1 => ?_)
  · refine am_s_iinc (ls' := [some (.ref 163), some (.int x1), some (.int x2), some (.int (x3 + 1)), some (.int x4)]) am_cc1 rfl rfl dc297_4.1.2 ?_
    refine am_s_goto rfl dc297_4.2.1 ?_
    exact (vi_t q c1)
  · refine am_s_iload_n rfl dc297_2.1.2.1 ?_
    refine am_s_aload_n rfl dc297_2.1.2.2 ?_
    refine am_s_iconst am_cc0 dc297_2.2.1.1 ?_
    refine am_s_iload_n rfl dc297_2.2.1.2 ?_
    refine am_s_iload_n rfl dc297_2.2.2.1 ?_
    refine am_s_iload rfl dc297_2.2.2.2 ?_
    refine am_s_virtual true dc297_3.1.1.1 rfl (by decide) rfl rfl rfl (am_mth_of rfl rfl ?_)
    refine am_s_aload_n rfl dc257_0.1.1.1 ?_
    refine am_s_getR (r := 184) dc257_0.1.1.2 rfl rfl rfl (hp _ _ _ rfl) ?_
    refine am_s_iload_n rfl dc257_0.1.2.1 ?_
    refine am_s_iload_n rfl dc257_0.1.2.2 ?_
    refine am_s_iload_n rfl dc257_0.2.1.1 ?_
    refine am_s_iload rfl dc257_0.2.1.2 ?_
    refine am_s_static dc257_0.2.2.1 rfl rfl rfl (am_mth_of rfl rfl ?_)
    refine am_s_iload_n rfl dc256_0.1.1.1 ?_
    refine am_s_bipush am_cb8 dc256_0.1.1.2 ?_
    refine am_s_imul dc256_0.1.2.1 ?_
    refine am_s_iload_n rfl dc256_0.1.2.2 ?_
    refine am_s_iadd dc256_0.2.1.1 ?_
    refine am_s_sipush am_cs625 dc256_0.2.1.2 ?_
    refine am_s_imul dc256_0.2.2.1 ?_
    refine am_s_iload_n rfl dc256_0.2.2.2 ?_
    refine am_s_bipush am_cb25 dc256_1.1.1 ?_
    refine am_s_imul dc256_1.1.2.1 ?_
    refine am_s_iadd dc256_1.1.2.2 ?_
    refine am_s_iload_n rfl dc256_1.2.1 ?_
    refine am_s_iadd dc256_1.2.2.1 ?_
    refine am_s_ireturn dc256_1.2.2.2 rfl (am_bkI ?_)
    refine am_x_iaload (x := I 184 (Int32.toNatClampNeg ((((((0 : Int32) * 8) + x1) * 625) + (x3 * 25)) + x4))) dc257_0.2.2.2 rfl ((vi_f q c1).1) rfl rfl ?_
    refine am_s_if_le dc257_1.1.1 rfl (fun c2 => ?_) (fun c2 => ?_)
    · refine am_s_iconst am_cc0 dc257_1.2.2.1 ?_
      refine am_s_zreturn dc257_1.2.2.2 rfl (by decide) (am_bkI ?_)
      refine am_s_if_eq dc297_3.1.1.2 rfl (fun _ => ?_) (fun z => absurd z (by decide))
      refine am_s_iconst am_cc0 dc297_3.2.1.1 ?_
      refine am_s_iadd dc297_3.2.1.2 ?_
      refine am_s_istore_n (ls' := [some (.ref 163), some (.int x1), some (.int (x2 + 0)), some (.int x3), some (.int x4)]) rfl rfl dc297_3.2.2.1 ?_
      refine am_s_iinc (ls' := [some (.ref 163), some (.int x1), some (.int (x2 + 0)), some (.int x3), some (.int (x4 + 1))]) am_cc1 rfl rfl dc297_3.2.2.2 ?_
      refine am_s_goto rfl dc297_4.1.1 ?_
      exact (vi_t (vi_f q c1).2 c2)
    · refine am_s_iconst am_cc1 dc257_1.1.2 ?_
      refine am_s_goto rfl dc257_1.2.1 ?_
      refine am_s_zreturn dc257_1.2.2.2 rfl (by decide) (am_bkI ?_)
      refine am_s_if_eq dc297_3.1.1.2 rfl (fun z => absurd z (by decide)) (fun _ => ?_)
      refine am_s_iconst am_cc1 dc297_3.1.2.1 ?_
      refine am_s_goto rfl dc297_3.1.2.2 ?_
      refine am_s_iadd dc297_3.2.1.2 ?_
      refine am_s_istore_n (ls' := [some (.ref 163), some (.int x1), some (.int (x2 + 1)), some (.int x3), some (.int x4)]) rfl rfl dc297_3.2.2.1 ?_
      refine am_s_iinc (ls' := [some (.ref 163), some (.int x1), some (.int (x2 + 1)), some (.int x3), some (.int (x4 + 1))]) am_cc1 rfl rfl dc297_3.2.2.2 ?_
      refine am_s_goto rfl dc297_4.1.1 ?_
      exact (vi_f (vi_f q c1).2 c2)
-- commonest (I)I
theorem v298_0 {sc : Option (Nat × (Nat → Int32))} {d k n : Nat} {P : am_O → Prop} {I : am_I} {J : am_J} {Pf : am_R} (hp : am_PF Pf) {x1 : Int32} {l2 : Option Value} {l3 : Option Value} (q : (if x1 < 0 then (P (.inl (some (.int 0)), (am_SH, am_u (am_u (am_u I 163 0 0) 163 0 1) 164 1 ((I 164 1) + 1), J, Pf), k, n)) else (if 1 < x1 then (P (.inl (some (.int 0)), (am_SH, am_u (am_u (am_u I 163 0 0) 163 0 1) 164 1 ((I 164 1) + 1), J, Pf), k, n)) else (am_mth (d + 1) 271 [.ref 163] (am_SH, am_u I 163 0 0, J, Pf) (am_af sc (d + 1) 298 23 [some (.ref 163), some (.int x1), l2, l3] [.ref 163] [] (am_SH, am_u I 163 0 0, J, Pf) k n true P))))) : am_go sc (d + 1) 298 (0, [some (.ref 163), some (.int x1), l2, l3], [], (am_SH, I, J, Pf), k, n) P := by
  refine am_s_aload_n rfl dc298_0.1.1.1 ?_
  refine am_s_iconst am_cc0 dc298_0.1.1.2 ?_
  refine am_s_putI dc298_0.1.2.1 rfl rfl rfl rfl ?_
  refine am_s_aload_n rfl dc298_0.1.2.2 ?_
  refine am_s_iload_n rfl dc298_0.2.1.1 ?_
  refine am_s_iconst am_cc0 dc298_0.2.1.2 ?_
  refine am_s_iconst am_cc1 dc298_0.2.2.1 ?_
  refine am_s_static dc298_0.2.2.2 rfl rfl rfl (am_mth_of rfl rfl ?_)
  refine am_s_iload_n rfl dc190_0.1.1.1 ?_
  refine am_s_iload_n rfl dc190_0.1.1.2 ?_
  refine am_s_ic_lt dc190_0.1.2.1 rfl (fun c1 => ?_) (fun c1 => ?_)
  · refine am_s_iconst am_cc0 dc190_1.1 ?_
    refine am_s_zreturn dc190_1.2 rfl (by decide) (am_bkI ?_)
    refine am_s_iconst am_cc1 dc298_1.1.1.1 ?_
    refine am_s_iconst am_cc1 dc298_1.1.1.2 ?_
    refine am_s_virtual true dc298_1.1.2.1 rfl (by decide) rfl rfl rfl (am_mth_of rfl rfl ?_)
    refine am_s_iload_n rfl dc189_0.1.1.1 ?_
    refine am_s_if_ne dc189_0.1.1.2 rfl (fun z => absurd z (by decide)) (fun _ => ?_)
    refine am_s_aload_n rfl dc189_0.1.2.1 ?_
    refine am_x_getI (x := 0) dc189_0.1.2.2 rfl rfl (Or.inl rfl) rfl ?_
    refine am_s_if_ne dc189_0.2.1.1 rfl (fun z => absurd z (by decide)) (fun _ => ?_)
    refine am_s_aload_n rfl dc189_0.2.1.2 ?_
    refine am_s_iload_n rfl dc189_0.2.2.1 ?_
    refine am_s_putI dc189_0.2.2.2 rfl rfl rfl rfl ?_
    refine am_s_aload_n rfl dc189_1.1.1.1 ?_
    refine am_s_getR (r := 164) dc189_1.1.1.2 rfl rfl rfl (hp _ _ _ rfl) ?_
    refine am_s_iload_n rfl dc189_1.1.2.1 ?_
    refine am_s_dup2 rfl rfl dc189_1.1.2.2 ?_
    refine am_x_iaload (x := I 164 1) dc189_1.2.1.1 rfl (by decide +kernel) am_cN1 rfl ?_
    refine am_s_iconst am_cc1 dc189_1.2.1.2 ?_
    refine am_s_iadd dc189_1.2.2.1 ?_
    refine am_s_iastore dc189_1.2.2.2 rfl (by decide +kernel) am_cN1 ?_
    refine am_s_aload_n rfl dc189_2.1.1 ?_
    refine am_x_getI (x := 1) dc189_2.1.2.1 rfl rfl (Or.inl rfl) rfl ?_
    refine am_s_if_ne dc189_2.1.2.2 rfl (fun _ => ?_) (fun z => absurd z (by decide))
    refine am_s_iconst am_cc0 dc189_2.2.2.1 ?_
    refine am_s_zreturn dc189_2.2.2.2 rfl (by decide) (am_bkI ?_)
    refine am_s_if_ne dc298_1.1.2.2 rfl (fun z => absurd z (by decide)) (fun _ => ?_)
    refine am_s_iconst am_cc0 dc298_1.2.1.1 ?_
    exact am_s_ireturn dc298_1.2.1.2 rfl ((vi_t q c1))
  · refine am_s_iload_n rfl dc190_0.1.2.2 ?_
    refine am_s_iload_n rfl dc190_0.2.1.1 ?_
    refine am_s_ic_gt dc190_0.2.1.2 rfl (fun c2 => ?_) (fun c2 => ?_)
    · refine am_s_iconst am_cc0 dc190_1.1 ?_
      refine am_s_zreturn dc190_1.2 rfl (by decide) (am_bkI ?_)
      refine am_s_iconst am_cc1 dc298_1.1.1.1 ?_
      refine am_s_iconst am_cc1 dc298_1.1.1.2 ?_
      refine am_s_virtual true dc298_1.1.2.1 rfl (by decide) rfl rfl rfl (am_mth_of rfl rfl ?_)
      refine am_s_iload_n rfl dc189_0.1.1.1 ?_
      refine am_s_if_ne dc189_0.1.1.2 rfl (fun z => absurd z (by decide)) (fun _ => ?_)
      refine am_s_aload_n rfl dc189_0.1.2.1 ?_
      refine am_x_getI (x := 0) dc189_0.1.2.2 rfl rfl (Or.inl rfl) rfl ?_
      refine am_s_if_ne dc189_0.2.1.1 rfl (fun z => absurd z (by decide)) (fun _ => ?_)
      refine am_s_aload_n rfl dc189_0.2.1.2 ?_
      refine am_s_iload_n rfl dc189_0.2.2.1 ?_
      refine am_s_putI dc189_0.2.2.2 rfl rfl rfl rfl ?_
      refine am_s_aload_n rfl dc189_1.1.1.1 ?_
      refine am_s_getR (r := 164) dc189_1.1.1.2 rfl rfl rfl (hp _ _ _ rfl) ?_
      refine am_s_iload_n rfl dc189_1.1.2.1 ?_
      refine am_s_dup2 rfl rfl dc189_1.1.2.2 ?_
      refine am_x_iaload (x := I 164 1) dc189_1.2.1.1 rfl (by decide +kernel) am_cN1 rfl ?_
      refine am_s_iconst am_cc1 dc189_1.2.1.2 ?_
      refine am_s_iadd dc189_1.2.2.1 ?_
      refine am_s_iastore dc189_1.2.2.2 rfl (by decide +kernel) am_cN1 ?_
      refine am_s_aload_n rfl dc189_2.1.1 ?_
      refine am_x_getI (x := 1) dc189_2.1.2.1 rfl rfl (Or.inl rfl) rfl ?_
      refine am_s_if_ne dc189_2.1.2.2 rfl (fun _ => ?_) (fun z => absurd z (by decide))
      refine am_s_iconst am_cc0 dc189_2.2.2.1 ?_
      refine am_s_zreturn dc189_2.2.2.2 rfl (by decide) (am_bkI ?_)
      refine am_s_if_ne dc298_1.1.2.2 rfl (fun z => absurd z (by decide)) (fun _ => ?_)
      refine am_s_iconst am_cc0 dc298_1.2.1.1 ?_
      exact am_s_ireturn dc298_1.2.1.2 rfl ((vi_t (vi_f q c1) c2))
    · refine am_s_iconst am_cc1 dc190_0.2.2.1 ?_
      refine am_s_goto rfl dc190_0.2.2.2 ?_
      refine am_s_zreturn dc190_1.2 rfl (by decide) (am_bkI ?_)
      refine am_s_iconst am_cc1 dc298_1.1.1.1 ?_
      refine am_s_iconst am_cc1 dc298_1.1.1.2 ?_
      refine am_s_virtual true dc298_1.1.2.1 rfl (by decide) rfl rfl rfl (am_mth_of rfl rfl ?_)
      refine am_s_iload_n rfl dc189_0.1.1.1 ?_
      refine am_s_if_ne dc189_0.1.1.2 rfl (fun _ => ?_) (fun z => absurd z (by decide))
      refine am_s_aload_n rfl dc189_2.1.1 ?_
      refine am_x_getI (x := 0) dc189_2.1.2.1 rfl rfl (Or.inl rfl) rfl ?_
      refine am_s_if_ne dc189_2.1.2.2 rfl (fun z => absurd z (by decide)) (fun _ => ?_)
      refine am_s_iconst am_cc1 dc189_2.2.1.1 ?_
      refine am_s_goto rfl dc189_2.2.1.2 ?_
      refine am_s_zreturn dc189_2.2.2.2 rfl (by decide) (am_bkI ?_)
      refine am_s_if_ne dc298_1.1.2.2 rfl (fun _ => ?_) (fun z => absurd z (by decide))
      refine am_s_aload_n rfl dc298_1.2.2.1 ?_
      exact am_s_virtual true dc298_1.2.2.2 rfl (by decide) rfl rfl rfl ((vi_f (vi_f q c1) c2))
theorem v298_30 {sc : Option (Nat × (Nat → Int32))} {d k n : Nat} {P : am_O → Prop} {I : am_I} {J : am_J} {Pf : am_R} (hp : am_PF Pf) {x1 : Int32} {x2 : Int32} {x3 : Int32} (q : (if 8 ≤ x3 then (if x1 = 0 then (P (.inl (some (.int x2)), (am_SH, I, J, Pf), k, n)) else (am_mth d 297 [.ref 163, .int x2] (am_SH, I, J, Pf) (am_af sc d 298 67 [some (.ref 163), some (.int x1), some (.int x2), some (.int x3)] [.int x2, .ref 163] [] (am_SH, I, J, Pf) k n true P))) else (am_mth d 297 [.ref 163, .int x3] (am_SH, I, J, Pf) (am_af sc d 298 38 [some (.ref 163), some (.int x1), some (.int x2), some (.int x3)] [.int x3, .ref 163] [] (am_SH, I, J, Pf) k n true P)))) : am_go sc d 298 (30, [some (.ref 163), some (.int x1), some (.int x2), some (.int x3)], [], (am_SH, I, J, Pf), k, n) P := by
  refine am_s_iload_n rfl dc298_2.2.1.1 ?_
  refine am_s_bipush am_cb8 dc298_2.2.1.2 ?_
  refine am_s_ic_ge dc298_2.2.2.1 rfl (fun c1 => ?_) (fun c1 => ?_)
  · refine am_s_iload_n rfl dc298_4.1.2.1 ?_
    refine am_s_if_ne dc298_4.1.2.2 rfl (fun c2 => ?_) (fun c2 => ?_)
    · refine am_s_aload_n rfl dc298_4.2.2.1 ?_
      refine am_s_iload_n rfl dc298_4.2.2.2 ?_
      exact am_s_virtual true dc298_5.1 rfl (by decide) rfl rfl rfl ((vi_f (vi_t q c1) c2))
    · refine am_s_iload_n rfl dc298_4.2.1.1 ?_
      refine am_s_goto rfl dc298_4.2.1.2 ?_
      exact am_s_ireturn dc298_5.2 rfl ((vi_t (vi_t q c1) (Decidable.not_not.mp c2)))
  · refine am_s_aload_n rfl dc298_2.2.2.2 ?_
    refine am_s_iload_n rfl dc298_3.1.1.1 ?_
    exact am_s_virtual true dc298_3.1.1.2 rfl (by decide) rfl rfl rfl ((vi_f q c1))
theorem v298_26 {sc : Option (Nat × (Nat → Int32))} {d k n : Nat} {P : am_O → Prop} {I : am_I} {J : am_J} {Pf : am_R} (hp : am_PF Pf) {x1 : Int32} {l2 : Option Value} {l3 : Option Value} (q : (am_go sc d 298 (30, [some (.ref 163), some (.int x1), some (.int 0), some (.int 1)], [], (am_SH, I, J, Pf), k, n) P)) : am_go sc d 298 (26, [some (.ref 163), some (.int x1), l2, l3], [], (am_SH, I, J, Pf), k, n) P := by
  refine am_s_iconst am_cc0 dc298_2.1.1.1 ?_
  refine am_s_istore_n (ls' := [some (.ref 163), some (.int x1), some (.int 0), l3]) rfl rfl dc298_2.1.1.2 ?_
  refine am_s_iconst am_cc1 dc298_2.1.2.1 ?_
  refine am_s_istore_n (ls' := [some (.ref 163), some (.int x1), some (.int 0), some (.int 1)]) rfl rfl dc298_2.1.2.2 ?_
  exact q
theorem v298_41 {sc : Option (Nat × (Nat → Int32))} {d k n : Nat} {P : am_O → Prop} {I : am_I} {J : am_J} {Pf : am_R} (hp : am_PF Pf) {x1 : Int32} {x2 : Int32} {x3 : Int32} {s0 : Int32} (q : (am_mth d 297 [.ref 163, .int x2] (am_SH, I, J, Pf) (am_af sc d 298 43 [some (.ref 163), some (.int x1), some (.int x2), some (.int x3)] [.int x2, .ref 163, .int s0] [.int s0] (am_SH, I, J, Pf) k n true P))) : am_go sc d 298 (41, [some (.ref 163), some (.int x1), some (.int x2), some (.int x3)], [.int s0], (am_SH, I, J, Pf), k, n) P := by
  refine am_s_aload_n rfl dc298_3.1.2.1 ?_
  refine am_s_iload_n rfl dc298_3.1.2.2 ?_
  exact am_s_virtual true dc298_3.2.1.1 rfl (by decide) rfl rfl rfl (q)
theorem v298_70 {sc : Option (Nat × (Nat → Int32))} {d k n : Nat} {P : am_O → Prop} {I : am_I} {J : am_J} {Pf : am_R} (hp : am_PF Pf) {l0 : Option Value} {l1 : Option Value} {l2 : Option Value} {l3 : Option Value} {s0 : Int32} (q : (P (.inl (some (.int s0)), (am_SH, I, J, Pf), k, n))) : am_go sc d 298 (70, [l0, l1, l2, l3], [.int s0], (am_SH, I, J, Pf), k, n) P := by
  exact am_s_ireturn dc298_5.2 rfl (q)
theorem v298_46 {sc : Option (Nat × (Nat → Int32))} {d k n : Nat} {P : am_O → Prop} {I : am_I} {J : am_J} {Pf : am_R} (hp : am_PF Pf) {x1 : Int32} {x2 : Int32} {x3 : Int32} {s0 : Int32} {s1 : Int32} (q : (if s0 ≤ s1 then (am_go sc d 298 (30, [some (.ref 163), some (.int x1), some (.int x2), some (.int (x3 + 1))], [], (am_SH, I, J, Pf), k, n) P) else (am_go sc d 298 (30, [some (.ref 163), some (.int x1), some (.int x3), some (.int (x3 + 1))], [], (am_SH, I, J, Pf), k, n) P))) : am_go sc d 298 (46, [some (.ref 163), some (.int x1), some (.int x2), some (.int x3)], [.int s1, .int s0], (am_SH, I, J, Pf), k, n) P := by
  refine am_s_ic_le dc298_3.2.1.2 rfl (fun c1 => ?_) (fun c1 => ?_)
  · refine am_s_iinc (ls' := [some (.ref 163), some (.int x1), some (.int x2), some (.int (x3 + 1))]) am_cc1 rfl rfl dc298_4.1.1.1 ?_
    refine am_s_goto rfl dc298_4.1.1.2 ?_
    exact (vi_t q c1)
  · refine am_s_iload_n rfl dc298_3.2.2.1 ?_
    refine am_s_istore_n (ls' := [some (.ref 163), some (.int x1), some (.int x3), some (.int x3)]) rfl rfl dc298_3.2.2.2 ?_
    refine am_s_iinc (ls' := [some (.ref 163), some (.int x1), some (.int x3), some (.int (x3 + 1))]) am_cc1 rfl rfl dc298_4.1.1.1 ?_
    refine am_s_goto rfl dc298_4.1.1.2 ?_
    exact (vi_f q c1)
-- canEnd (IIIII)Z
theorem v299_0 {sc : Option (Nat × (Nat → Int32))} {d k n : Nat} {P : am_O → Prop} {I : am_I} {J : am_J} {Pf : am_R} (hp : am_PF Pf) {x1 : Int32} {x2 : Int32} {x3 : Int32} {x4 : Int32} {x5 : Int32} {l6 : Option Value} {l7 : Option Value} {l8 : Option Value} (q : (am_in ((32 + (3 * x1)) + 2) 1040 = true) ∧ (if x2 = (I 167 (Int32.toNatClampNeg ((32 + (3 * x1)) + 2))) then (if x3 = x4 then (P (.inl (some (.int 1)), (am_SH, I, J, Pf), k, n)) else (P (.inl (some (.int 0)), (am_SH, I, J, Pf), k, n))) else (am_mth d 268 [.ref 163, .int 0, .int x1, .int x2, .int x3] (am_SH, I, J, Pf) (am_af sc d 299 47 [some (.ref 163), some (.int x1), some (.int x2), some (.int x3), some (.int x4), some (.int x5), some (.int (92 + (((4 * x1) + x2) * 11))), l7, l8] [.int x3, .int x2, .int x1, .int 0, .ref 163] [] (am_SH, I, J, Pf) k n true P)))) : am_go sc d 299 (0, [some (.ref 163), some (.int x1), some (.int x2), some (.int x3), some (.int x4), some (.int x5), l6, l7, l8], [], (am_SH, I, J, Pf), k, n) P := by
  refine am_s_iload_n rfl dc299_0.1.1.1 ?_
  refine am_s_aload_n rfl dc299_0.1.1.2 ?_
  refine am_s_getR (r := 167) dc299_0.1.2.1 rfl rfl rfl (hp _ _ _ rfl) ?_
  refine am_s_bipush am_cb32 dc299_0.1.2.2 ?_
  refine am_s_iconst am_cc3 dc299_0.2.1.1 ?_
  refine am_s_iload_n rfl dc299_0.2.1.2 ?_
  refine am_s_imul dc299_0.2.2.1 ?_
  refine am_s_iadd dc299_0.2.2.2 ?_
  refine am_s_iconst am_cc2 dc299_1.1.1.1 ?_
  refine am_s_iadd dc299_1.1.1.2 ?_
  refine am_x_iaload (x := I 167 (Int32.toNatClampNeg ((32 + (3 * x1)) + 2))) dc299_1.1.2.1 rfl (q.1) rfl rfl ?_
  refine am_s_ic_ne dc299_1.1.2.2 rfl (fun c1 => ?_) (fun c1 => ?_)
  · refine am_s_bipush am_cb92 dc299_2.1.2.2 ?_
    refine am_s_iconst am_cc4 dc299_2.2.1.1 ?_
    refine am_s_iload_n rfl dc299_2.2.1.2 ?_
    refine am_s_imul dc299_2.2.2.1 ?_
    refine am_s_iload_n rfl dc299_2.2.2.2 ?_
    refine am_s_iadd dc299_3.1.1.1 ?_
    refine am_s_bipush am_cb11 dc299_3.1.1.2 ?_
    refine am_s_imul dc299_3.1.2.1 ?_
    refine am_s_iadd dc299_3.1.2.2 ?_
    refine am_s_istore (ls' := [some (.ref 163), some (.int x1), some (.int x2), some (.int x3), some (.int x4), some (.int x5), some (.int (92 + (((4 * x1) + x2) * 11))), l7, l8]) rfl rfl dc299_3.2.1.1 ?_
    refine am_s_aload_n rfl dc299_3.2.1.2 ?_
    refine am_s_iconst am_cc0 dc299_3.2.2.1 ?_
    refine am_s_iload_n rfl dc299_3.2.2.2 ?_
    refine am_s_iload_n rfl dc299_4.1.1.1 ?_
    refine am_s_iload_n rfl dc299_4.1.1.2 ?_
    exact am_s_virtual true dc299_4.1.2.1 rfl (by decide) rfl rfl rfl ((vi_f q.2 c1))
  · refine am_s_iload_n rfl dc299_1.2.1.1 ?_
    refine am_s_iload rfl dc299_1.2.1.2 ?_
    refine am_s_ic_ne dc299_1.2.2.1 rfl (fun c2 => ?_) (fun c2 => ?_)
    · refine am_s_iconst am_cc0 dc299_2.1.1.2 ?_
      exact am_s_zreturn dc299_2.1.2.1 rfl (by decide) ((vi_f (vi_t q.2 (Decidable.not_not.mp c1)) c2))
    · refine am_s_iconst am_cc1 dc299_1.2.2.2 ?_
      refine am_s_goto rfl dc299_2.1.1.1 ?_
      exact am_s_zreturn dc299_2.1.2.1 rfl (by decide) ((vi_t (vi_t q.2 (Decidable.not_not.mp c1)) (Decidable.not_not.mp c2)))
theorem v299_114 {sc : Option (Nat × (Nat → Int32))} {d k n : Nat} {P : am_O → Prop} {I : am_I} {J : am_J} {Pf : am_R} (hp : am_PF Pf) {x1 : Int32} {x2 : Int32} {l3 : Option Value} {x4 : Int32} {x5 : Int32} {x6 : Int32} {x7 : Int32} {x8 : Int32} (q : (if x4 < x8 then (P (.inl (some (.int 0)), (am_SH, I, J, Pf), k, n)) else (am_in (x6 + 1) 1040 = true) ∧ (am_in ((((((0 : Int32) * 8) + (I 167 (Int32.toNatClampNeg (x6 + 1)))) * 625) + (x7 * 25)) + x8) 20000 = true) ∧ (if (I 184 (Int32.toNatClampNeg ((((((0 : Int32) * 8) + (I 167 (Int32.toNatClampNeg (x6 + 1)))) * 625) + (x7 * 25)) + x8))) ≤ 0 then (am_go sc (d + 2) 299 (114, [some (.ref 163), some (.int x1), some (.int x2), l3, some (.int x4), some (.int x5), some (.int x6), some (.int x7), some (.int (x8 + 1))], [], (am_SH, I, J, Pf), k, n) P) else (if x5 < (I 184 (Int32.toNatClampNeg ((((((0 : Int32) * 8) + (I 167 (Int32.toNatClampNeg (x6 + 1)))) * 625) + (x7 * 25)) + x8))) then (am_go sc (d + 2) 299 (114, [some (.ref 163), some (.int x1), some (.int x2), l3, some (.int x4), some (.int x5), some (.int x6), some (.int x7), some (.int (x8 + 1))], [], (am_SH, I, J, Pf), k, n) P) else (am_mth (d + 2) 299 [.ref 163, .int x1, .int (x2 + 1), .int x8, .int x4, .int x5] (am_SH, I, J, Pf) (am_af sc (d + 2) 299 154 [some (.ref 163), some (.int x1), some (.int x2), l3, some (.int x4), some (.int x5), some (.int x6), some (.int x7), some (.int x8)] [.int x5, .int x4, .int x8, .int (x2 + 1), .int x1, .ref 163] [] (am_SH, I, J, Pf) k n true P)))))) : am_go sc (d + 2) 299 (114, [some (.ref 163), some (.int x1), some (.int x2), l3, some (.int x4), some (.int x5), some (.int x6), some (.int x7), some (.int x8)], [], (am_SH, I, J, Pf), k, n) P := by
  refine am_s_iload rfl dc299_8.2.2.1 ?_
  refine am_s_iload rfl dc299_8.2.2.2 ?_
  refine am_s_ic_gt dc299_9.1.1.1 rfl (fun c1 => ?_) (fun c1 => ?_)
  · refine am_s_iconst am_cc0 dc299_12.2.2.1 ?_
    exact am_s_zreturn dc299_12.2.2.2 rfl (by decide) ((vi_t q c1))
  · refine am_s_aload_n rfl dc299_9.1.1.2 ?_
    refine am_s_aload_n rfl dc299_9.1.2.1 ?_
    refine am_s_getR (r := 167) dc299_9.1.2.2 rfl rfl rfl (hp _ _ _ rfl) ?_
    refine am_s_iload rfl dc299_9.2.1.1 ?_
    refine am_s_iconst am_cc1 dc299_9.2.1.2 ?_
    refine am_s_iadd dc299_9.2.2.1 ?_
    refine am_x_iaload (x := I 167 (Int32.toNatClampNeg (x6 + 1))) dc299_9.2.2.2 rfl ((vi_f q c1).1) rfl rfl ?_
    refine am_s_iload rfl dc299_10.1.1.1 ?_
    refine am_s_iload rfl dc299_10.1.1.2 ?_
    refine am_s_iload rfl dc299_10.1.2.1 ?_
    refine am_s_virtual true dc299_10.1.2.2 rfl (by decide) rfl rfl rfl (am_mth_of rfl rfl ?_)
    refine am_s_aload_n rfl dc300_0.1.1.1 ?_
    refine am_s_getR (r := 184) dc300_0.1.1.2 rfl rfl rfl (hp _ _ _ rfl) ?_
    refine am_s_iconst am_cc0 dc300_0.1.2.1 ?_
    refine am_s_iload_n rfl dc300_0.1.2.2 ?_
    refine am_s_iload_n rfl dc300_0.2.1.1 ?_
    refine am_s_iload_n rfl dc300_0.2.1.2 ?_
    refine am_s_static dc300_0.2.2.1 rfl rfl rfl (am_mth_of rfl rfl ?_)
    refine am_s_iload_n rfl dc256_0.1.1.1 ?_
    refine am_s_bipush am_cb8 dc256_0.1.1.2 ?_
    refine am_s_imul dc256_0.1.2.1 ?_
    refine am_s_iload_n rfl dc256_0.1.2.2 ?_
    refine am_s_iadd dc256_0.2.1.1 ?_
    refine am_s_sipush am_cs625 dc256_0.2.1.2 ?_
    refine am_s_imul dc256_0.2.2.1 ?_
    refine am_s_iload_n rfl dc256_0.2.2.2 ?_
    refine am_s_bipush am_cb25 dc256_1.1.1 ?_
    refine am_s_imul dc256_1.1.2.1 ?_
    refine am_s_iadd dc256_1.1.2.2 ?_
    refine am_s_iload_n rfl dc256_1.2.1 ?_
    refine am_s_iadd dc256_1.2.2.1 ?_
    refine am_s_ireturn dc256_1.2.2.2 rfl (am_bkI ?_)
    refine am_x_iaload (x := I 184 (Int32.toNatClampNeg ((((((0 : Int32) * 8) + (I 167 (Int32.toNatClampNeg (x6 + 1)))) * 625) + (x7 * 25)) + x8))) dc300_0.2.2.2 rfl ((vi_f q c1).2.1) rfl rfl ?_
    refine am_s_istore (ls' := [some (.ref 163), some (.int (I 167 (Int32.toNatClampNeg (x6 + 1)))), some (.int x7), some (.int x8), some (.int x5), some (.int (I 184 (Int32.toNatClampNeg ((((((0 : Int32) * 8) + (I 167 (Int32.toNatClampNeg (x6 + 1)))) * 625) + (x7 * 25)) + x8))))]) rfl rfl dc300_1.1.1.1 ?_
    refine am_s_iload rfl dc300_1.1.1.2 ?_
    refine am_s_if_le dc300_1.1.2.1 rfl (fun c2 => ?_) (fun c2 => ?_)
    · refine am_s_iconst am_cc0 dc300_2.1 ?_
      refine am_s_zreturn dc300_2.2 rfl (by decide) (am_bkI ?_)
      refine am_s_if_eq dc299_10.2.1.1 rfl (fun _ => ?_) (fun z => absurd z (by decide))
      refine am_s_iinc (ls' := [some (.ref 163), some (.int x1), some (.int x2), l3, some (.int x4), some (.int x5), some (.int x6), some (.int x7), some (.int (x8 + 1))]) am_cc1 rfl rfl dc299_12.1.2 ?_
      refine am_s_goto rfl dc299_12.2.1 ?_
      exact (vi_t (vi_f q c1).2.2 c2)
    · refine am_s_iload rfl dc300_1.1.2.2 ?_
      refine am_s_iload rfl dc300_1.2.1.1 ?_
      refine am_s_ic_gt dc300_1.2.1.2 rfl (fun c3 => ?_) (fun c3 => ?_)
      · refine am_s_iconst am_cc0 dc300_2.1 ?_
        refine am_s_zreturn dc300_2.2 rfl (by decide) (am_bkI ?_)
        refine am_s_if_eq dc299_10.2.1.1 rfl (fun _ => ?_) (fun z => absurd z (by decide))
        refine am_s_iinc (ls' := [some (.ref 163), some (.int x1), some (.int x2), l3, some (.int x4), some (.int x5), some (.int x6), some (.int x7), some (.int (x8 + 1))]) am_cc1 rfl rfl dc299_12.1.2 ?_
        refine am_s_goto rfl dc299_12.2.1 ?_
        exact (vi_t (vi_f (vi_f q c1).2.2 c2) c3)
      · refine am_s_iconst am_cc1 dc300_1.2.2.1 ?_
        refine am_s_goto rfl dc300_1.2.2.2 ?_
        refine am_s_zreturn dc300_2.2 rfl (by decide) (am_bkI ?_)
        refine am_s_if_eq dc299_10.2.1.1 rfl (fun z => absurd z (by decide)) (fun _ => ?_)
        refine am_s_aload_n rfl dc299_10.2.1.2 ?_
        refine am_s_iload_n rfl dc299_10.2.2.1 ?_
        refine am_s_iload_n rfl dc299_10.2.2.2 ?_
        refine am_s_iconst am_cc1 dc299_11.1.1.1 ?_
        refine am_s_iadd dc299_11.1.1.2 ?_
        refine am_s_iload rfl dc299_11.1.2.1 ?_
        refine am_s_iload rfl dc299_11.1.2.2 ?_
        refine am_s_iload rfl dc299_11.2.1.1 ?_
        exact am_s_virtual true dc299_11.2.1.2 rfl (by decide) rfl rfl rfl ((vi_f (vi_f (vi_f q c1).2.2 c2) c3))
theorem v299_50 {sc : Option (Nat × (Nat → Int32))} {d k n : Nat} {P : am_O → Prop} {I : am_I} {J : am_J} {Pf : am_R} (hp : am_PF Pf) {x1 : Int32} {x2 : Int32} {l3 : Option Value} {x4 : Int32} {x5 : Int32} {x6 : Int32} {l7 : Option Value} {l8 : Option Value} {s0 : Int32} (q : (am_in x6 1040 = true) ∧ (if (I 167 (Int32.toNatClampNeg x6)) = 1 then (am_go sc d 299 (114, [some (.ref 163), some (.int x1), some (.int x2), l3, some (.int x4), some (.int x5), some (.int x6), some (.int s0), some (.int s0)], [], (am_SH, I, J, Pf), k, n) P) else (am_mth d 269 [.ref 163, .int 0, .int x6, .int s0] (am_SH, I, J, Pf) (am_af sc d 299 69 [some (.ref 163), some (.int x1), some (.int x2), l3, some (.int x4), some (.int x5), some (.int x6), some (.int s0), l8] [.int s0, .int x6, .int 0, .ref 163] [] (am_SH, I, J, Pf) k n true P)))) : am_go sc d 299 (50, [some (.ref 163), some (.int x1), some (.int x2), l3, some (.int x4), some (.int x5), some (.int x6), l7, l8], [.int s0], (am_SH, I, J, Pf), k, n) P := by
  refine am_s_istore (ls' := [some (.ref 163), some (.int x1), some (.int x2), l3, some (.int x4), some (.int x5), some (.int x6), some (.int s0), l8]) rfl rfl dc299_4.1.2.2 ?_
  refine am_s_aload_n rfl dc299_4.2.1.1 ?_
  refine am_s_getR (r := 167) dc299_4.2.1.2 rfl rfl rfl (hp _ _ _ rfl) ?_
  refine am_s_iload rfl dc299_4.2.2.1 ?_
  refine am_x_iaload (x := I 167 (Int32.toNatClampNeg x6)) dc299_4.2.2.2 rfl (q.1) rfl rfl ?_
  refine am_s_iconst am_cc1 dc299_5.1.1.1 ?_
  refine am_s_ic_eq dc299_5.1.1.2 rfl (fun c1 => ?_) (fun c1 => ?_)
  · refine am_s_iload rfl dc299_8.2.1.1 ?_
    refine am_s_istore (ls' := [some (.ref 163), some (.int x1), some (.int x2), l3, some (.int x4), some (.int x5), some (.int x6), some (.int s0), some (.int s0)]) rfl rfl dc299_8.2.1.2 ?_
    exact (vi_t q.2 c1)
  · refine am_s_aload_n rfl dc299_5.1.2.1 ?_
    refine am_s_iconst am_cc0 dc299_5.1.2.2 ?_
    refine am_s_iload rfl dc299_5.2.1.1 ?_
    refine am_s_iload rfl dc299_5.2.1.2 ?_
    exact am_s_virtual true dc299_5.2.2.1 rfl (by decide) rfl rfl rfl ((vi_f q.2 c1))
theorem v299_157 {sc : Option (Nat × (Nat → Int32))} {d k n : Nat} {P : am_O → Prop} {I : am_I} {J : am_J} {Pf : am_R} (hp : am_PF Pf) {x1 : Int32} {x2 : Int32} {l3 : Option Value} {x4 : Int32} {x5 : Int32} {x6 : Int32} {x7 : Int32} {x8 : Int32} {s0 : Int32} (q : (if s0 = 0 then (am_go sc d 299 (114, [some (.ref 163), some (.int x1), some (.int x2), l3, some (.int x4), some (.int x5), some (.int x6), some (.int x7), some (.int (x8 + 1))], [], (am_SH, I, J, Pf), k, n) P) else (P (.inl (some (.int 1)), (am_SH, I, J, Pf), k, n)))) : am_go sc d 299 (157, [some (.ref 163), some (.int x1), some (.int x2), l3, some (.int x4), some (.int x5), some (.int x6), some (.int x7), some (.int x8)], [.int s0], (am_SH, I, J, Pf), k, n) P := by
  refine am_s_if_eq dc299_11.2.2.1 rfl (fun c1 => ?_) (fun c1 => ?_)
  · refine am_s_iinc (ls' := [some (.ref 163), some (.int x1), some (.int x2), l3, some (.int x4), some (.int x5), some (.int x6), some (.int x7), some (.int (x8 + 1))]) am_cc1 rfl rfl dc299_12.1.2 ?_
    refine am_s_goto rfl dc299_12.2.1 ?_
    exact (vi_t q c1)
  · refine am_s_iconst am_cc1 dc299_11.2.2.2 ?_
    exact am_s_zreturn dc299_12.1.1 rfl (by decide) ((vi_f q c1))
theorem v299_72 {sc : Option (Nat × (Nat → Int32))} {d k n : Nat} {P : am_O → Prop} {I : am_I} {J : am_J} {Pf : am_R} (hp : am_PF Pf) {x1 : Int32} {x2 : Int32} {l3 : Option Value} {x4 : Int32} {x5 : Int32} {l6 : Option Value} {l7 : Option Value} {l8 : Option Value} {s0 : Int32} (hl7 : am_k1 l7 = true) (q : (if s0 = (-1) then (P (.inl (some (.int 0)), (am_SH, I, J, Pf), k, n)) else (if x4 < s0 then (P (.inl (some (.int 0)), (am_SH, I, J, Pf), k, n)) else (am_mth d 299 [.ref 163, .int x1, .int (x2 + 1), .int s0, .int x4, .int x5] (am_SH, I, J, Pf) (am_af sc d 299 98 [some (.ref 163), some (.int x1), some (.int x2), l3, some (.int x4), some (.int x5), l6, l7, some (.int s0)] [.int x5, .int x4, .int s0, .int (x2 + 1), .int x1, .ref 163] [] (am_SH, I, J, Pf) k n true P))))) : am_go sc d 299 (72, [some (.ref 163), some (.int x1), some (.int x2), l3, some (.int x4), some (.int x5), l6, l7, l8], [.int s0], (am_SH, I, J, Pf), k, n) P := by
  refine am_s_istore (ls' := [some (.ref 163), some (.int x1), some (.int x2), l3, some (.int x4), some (.int x5), l6, l7, some (.int s0)]) rfl (am_set1_k (am_kill_x (j := 7) rfl hl7) rfl) dc299_5.2.2.2 ?_
  refine am_s_iload rfl dc299_6.1.1.1 ?_
  refine am_s_iconst am_ccm1 dc299_6.1.1.2 ?_
  refine am_s_ic_eq dc299_6.1.2.1 rfl (fun c1 => ?_) (fun c1 => ?_)
  · refine am_s_iconst am_cc0 dc299_8.1.2.1 ?_
    exact am_s_zreturn dc299_8.1.2.2 rfl (by decide) ((vi_t q c1))
  · refine am_s_iload rfl dc299_6.1.2.2 ?_
    refine am_s_iload rfl dc299_6.2.1.1 ?_
    refine am_s_ic_gt dc299_6.2.1.2 rfl (fun c2 => ?_) (fun c2 => ?_)
    · refine am_s_iconst am_cc0 dc299_8.1.2.1 ?_
      exact am_s_zreturn dc299_8.1.2.2 rfl (by decide) ((vi_t (vi_f q c1) c2))
    · refine am_s_aload_n rfl dc299_6.2.2.1 ?_
      refine am_s_iload_n rfl dc299_6.2.2.2 ?_
      refine am_s_iload_n rfl dc299_7.1.1.1 ?_
      refine am_s_iconst am_cc1 dc299_7.1.1.2 ?_
      refine am_s_iadd dc299_7.1.2.1 ?_
      refine am_s_iload rfl dc299_7.1.2.2 ?_
      refine am_s_iload rfl dc299_7.2.1.1 ?_
      refine am_s_iload rfl dc299_7.2.1.2 ?_
      exact am_s_virtual true dc299_7.2.2.1 rfl (by decide) rfl rfl rfl ((vi_f (vi_f q c1) c2))
theorem v299_101 {sc : Option (Nat × (Nat → Int32))} {d k n : Nat} {P : am_O → Prop} {I : am_I} {J : am_J} {Pf : am_R} (hp : am_PF Pf) {l0 : Option Value} {l1 : Option Value} {l2 : Option Value} {l3 : Option Value} {l4 : Option Value} {l5 : Option Value} {l6 : Option Value} {l7 : Option Value} {l8 : Option Value} {s0 : Int32} (q : (if s0 = 0 then (P (.inl (some (.int 0)), (am_SH, I, J, Pf), k, n)) else (P (.inl (some (.int 1)), (am_SH, I, J, Pf), k, n)))) : am_go sc d 299 (101, [l0, l1, l2, l3, l4, l5, l6, l7, l8], [.int s0], (am_SH, I, J, Pf), k, n) P := by
  refine am_s_if_eq dc299_7.2.2.2 rfl (fun c1 => ?_) (fun c1 => ?_)
  · refine am_s_iconst am_cc0 dc299_8.1.2.1 ?_
    exact am_s_zreturn dc299_8.1.2.2 rfl (by decide) ((vi_t q c1))
  · refine am_s_iconst am_cc1 dc299_8.1.1.1 ?_
    refine am_s_goto rfl dc299_8.1.1.2 ?_
    exact am_s_zreturn dc299_8.1.2.2 rfl (by decide) ((vi_f q c1))
-- isLow (IIII)Z
theorem v300_0 {sc : Option (Nat × (Nat → Int32))} {d k n : Nat} {P : am_O → Prop} {I : am_I} {J : am_J} {Pf : am_R} (hp : am_PF Pf) {x1 : Int32} {x2 : Int32} {x3 : Int32} {x4 : Int32} {l5 : Option Value} (q : (am_in ((((((0 : Int32) * 8) + x1) * 625) + (x2 * 25)) + x3) 20000 = true) ∧ (if (I 184 (Int32.toNatClampNeg ((((((0 : Int32) * 8) + x1) * 625) + (x2 * 25)) + x3))) ≤ 0 then (P (.inl (some (.int 0)), (am_SH, I, J, Pf), k, n)) else (if x4 < (I 184 (Int32.toNatClampNeg ((((((0 : Int32) * 8) + x1) * 625) + (x2 * 25)) + x3))) then (P (.inl (some (.int 0)), (am_SH, I, J, Pf), k, n)) else (P (.inl (some (.int 1)), (am_SH, I, J, Pf), k, n))))) : am_go sc (d + 1) 300 (0, [some (.ref 163), some (.int x1), some (.int x2), some (.int x3), some (.int x4), l5], [], (am_SH, I, J, Pf), k, n) P := by
  refine am_s_aload_n rfl dc300_0.1.1.1 ?_
  refine am_s_getR (r := 184) dc300_0.1.1.2 rfl rfl rfl (hp _ _ _ rfl) ?_
  refine am_s_iconst am_cc0 dc300_0.1.2.1 ?_
  refine am_s_iload_n rfl dc300_0.1.2.2 ?_
  refine am_s_iload_n rfl dc300_0.2.1.1 ?_
  refine am_s_iload_n rfl dc300_0.2.1.2 ?_
  refine am_s_static dc300_0.2.2.1 rfl rfl rfl (am_mth_of rfl rfl ?_)
  refine am_s_iload_n rfl dc256_0.1.1.1 ?_
  refine am_s_bipush am_cb8 dc256_0.1.1.2 ?_
  refine am_s_imul dc256_0.1.2.1 ?_
  refine am_s_iload_n rfl dc256_0.1.2.2 ?_
  refine am_s_iadd dc256_0.2.1.1 ?_
  refine am_s_sipush am_cs625 dc256_0.2.1.2 ?_
  refine am_s_imul dc256_0.2.2.1 ?_
  refine am_s_iload_n rfl dc256_0.2.2.2 ?_
  refine am_s_bipush am_cb25 dc256_1.1.1 ?_
  refine am_s_imul dc256_1.1.2.1 ?_
  refine am_s_iadd dc256_1.1.2.2 ?_
  refine am_s_iload_n rfl dc256_1.2.1 ?_
  refine am_s_iadd dc256_1.2.2.1 ?_
  refine am_s_ireturn dc256_1.2.2.2 rfl (am_bkI ?_)
  refine am_x_iaload (x := I 184 (Int32.toNatClampNeg ((((((0 : Int32) * 8) + x1) * 625) + (x2 * 25)) + x3))) dc300_0.2.2.2 rfl (q.1) rfl rfl ?_
  refine am_s_istore (ls' := [some (.ref 163), some (.int x1), some (.int x2), some (.int x3), some (.int x4), some (.int (I 184 (Int32.toNatClampNeg ((((((0 : Int32) * 8) + x1) * 625) + (x2 * 25)) + x3))))]) rfl rfl dc300_1.1.1.1 ?_
  refine am_s_iload rfl dc300_1.1.1.2 ?_
  refine am_s_if_le dc300_1.1.2.1 rfl (fun c1 => ?_) (fun c1 => ?_)
  · refine am_s_iconst am_cc0 dc300_2.1 ?_
    exact am_s_zreturn dc300_2.2 rfl (by decide) ((vi_t q.2 c1))
  · refine am_s_iload rfl dc300_1.1.2.2 ?_
    refine am_s_iload rfl dc300_1.2.1.1 ?_
    refine am_s_ic_gt dc300_1.2.1.2 rfl (fun c2 => ?_) (fun c2 => ?_)
    · refine am_s_iconst am_cc0 dc300_2.1 ?_
      exact am_s_zreturn dc300_2.2 rfl (by decide) ((vi_t (vi_f q.2 c1) c2))
    · refine am_s_iconst am_cc1 dc300_1.2.2.1 ?_
      refine am_s_goto rfl dc300_1.2.2.2 ?_
      exact am_s_zreturn dc300_2.2 rfl (by decide) ((vi_f (vi_f q.2 c1) c2))
-- productionOf (III)I
theorem v301_0 {sc : Option (Nat × (Nat → Int32))} {d k n : Nat} {P : am_O → Prop} {I : am_I} {J : am_J} {Pf : am_R} (hp : am_PF Pf) {x1 : Int32} {x2 : Int32} {x3 : Int32} {l4 : Option Value} {l5 : Option Value} (q : (am_in ((((((0 : Int32) * 8) + x1) * 625) + (x2 * 25)) + x3) 20000 = true) ∧ (am_go sc (d + 1) 301 (19, [some (.ref 163), some (.int x1), some (.int x2), some (.int x3), some (.int ((I 184 (Int32.toNatClampNeg ((((((0 : Int32) * 8) + x1) * 625) + (x2 * 25)) + x3))) - 1)), some (.int 0)], [], (am_SH, I, J, Pf), k, n) P)) : am_go sc (d + 1) 301 (0, [some (.ref 163), some (.int x1), some (.int x2), some (.int x3), l4, l5], [], (am_SH, I, J, Pf), k, n) P := by
  refine am_s_aload_n rfl dc301_0.1.1.1 ?_
  refine am_s_getR (r := 184) dc301_0.1.1.2 rfl rfl rfl (hp _ _ _ rfl) ?_
  refine am_s_iconst am_cc0 dc301_0.1.2.1 ?_
  refine am_s_iload_n rfl dc301_0.1.2.2 ?_
  refine am_s_iload_n rfl dc301_0.2.1.1 ?_
  refine am_s_iload_n rfl dc301_0.2.1.2 ?_
  refine am_s_static dc301_0.2.2.1 rfl rfl rfl (am_mth_of rfl rfl ?_)
  refine am_s_iload_n rfl dc256_0.1.1.1 ?_
  refine am_s_bipush am_cb8 dc256_0.1.1.2 ?_
  refine am_s_imul dc256_0.1.2.1 ?_
  refine am_s_iload_n rfl dc256_0.1.2.2 ?_
  refine am_s_iadd dc256_0.2.1.1 ?_
  refine am_s_sipush am_cs625 dc256_0.2.1.2 ?_
  refine am_s_imul dc256_0.2.2.1 ?_
  refine am_s_iload_n rfl dc256_0.2.2.2 ?_
  refine am_s_bipush am_cb25 dc256_1.1.1 ?_
  refine am_s_imul dc256_1.1.2.1 ?_
  refine am_s_iadd dc256_1.1.2.2 ?_
  refine am_s_iload_n rfl dc256_1.2.1 ?_
  refine am_s_iadd dc256_1.2.2.1 ?_
  refine am_s_ireturn dc256_1.2.2.2 rfl (am_bkI ?_)
  refine am_x_iaload (x := I 184 (Int32.toNatClampNeg ((((((0 : Int32) * 8) + x1) * 625) + (x2 * 25)) + x3))) dc301_0.2.2.2 rfl (q.1) rfl rfl ?_
  refine am_s_iconst am_cc1 dc301_1.1.1.1 ?_
  refine am_s_isub dc301_1.1.1.2 ?_
  refine am_s_istore (ls' := [some (.ref 163), some (.int x1), some (.int x2), some (.int x3), some (.int ((I 184 (Int32.toNatClampNeg ((((((0 : Int32) * 8) + x1) * 625) + (x2 * 25)) + x3))) - 1)), l5]) rfl rfl dc301_1.1.2.1 ?_
  refine am_s_iconst am_cc0 dc301_1.1.2.2 ?_
  refine am_s_istore (ls' := [some (.ref 163), some (.int x1), some (.int x2), some (.int x3), some (.int ((I 184 (Int32.toNatClampNeg ((((((0 : Int32) * 8) + x1) * 625) + (x2 * 25)) + x3))) - 1)), some (.int 0)]) rfl rfl dc301_1.2.1.1 ?_
  exact q.2
theorem v301_19 {sc : Option (Nat × (Nat → Int32))} {d k n : Nat} {P : am_O → Prop} {I : am_I} {J : am_J} {Pf : am_R} (hp : am_PF Pf) {x1 : Int32} {x2 : Int32} {x3 : Int32} {x4 : Int32} {x5 : Int32} (q : (if (I 167 1) ≤ x5 then (P (.inl (some (.int (-1))), (am_SH, I, J, Pf), k, n)) else (am_in (32 + (3 * x5)) 1040 = true) ∧ (if (I 167 (Int32.toNatClampNeg (32 + (3 * x5)))) = x1 then (am_mth d 299 [.ref 163, .int x5, .int 0, .int x2, .int x3, .int x4] (am_SH, I, J, Pf) (am_af sc d 301 54 [some (.ref 163), some (.int x1), some (.int x2), some (.int x3), some (.int x4), some (.int x5)] [.int x4, .int x3, .int x2, .int 0, .int x5, .ref 163] [] (am_SH, I, J, Pf) k n true P)) else (am_go sc d 301 (19, [some (.ref 163), some (.int x1), some (.int x2), some (.int x3), some (.int x4), some (.int (x5 + 1))], [], (am_SH, I, J, Pf), k, n) P)))) : am_go sc d 301 (19, [some (.ref 163), some (.int x1), some (.int x2), some (.int x3), some (.int x4), some (.int x5)], [], (am_SH, I, J, Pf), k, n) P := by
  refine am_s_iload rfl dc301_1.2.1.2 ?_
  refine am_s_aload_n rfl dc301_1.2.2.1 ?_
  refine am_s_getR (r := 167) dc301_1.2.2.2 rfl rfl rfl (hp _ _ _ rfl) ?_
  refine am_s_iconst am_cc1 dc301_2.1.1.1 ?_
  refine am_x_iaload (x := I 167 1) dc301_2.1.1.2 rfl (by decide +kernel) am_cN1 rfl ?_
  refine am_s_ic_ge dc301_2.1.2.1 rfl (fun c1 => ?_) (fun c1 => ?_)
  · refine am_s_iconst am_ccm1 dc301_5.2.1 ?_
    exact am_s_ireturn dc301_5.2.2 rfl ((vi_t q c1))
  · refine am_s_aload_n rfl dc301_2.1.2.2 ?_
    refine am_s_getR (r := 167) dc301_2.2.1.1 rfl rfl rfl (hp _ _ _ rfl) ?_
    refine am_s_bipush am_cb32 dc301_2.2.1.2 ?_
    refine am_s_iconst am_cc3 dc301_2.2.2.1 ?_
    refine am_s_iload rfl dc301_2.2.2.2 ?_
    refine am_s_imul dc301_3.1.1.1 ?_
    refine am_s_iadd dc301_3.1.1.2 ?_
    refine am_x_iaload (x := I 167 (Int32.toNatClampNeg (32 + (3 * x5)))) dc301_3.1.2.1 rfl ((vi_f q c1).1) rfl rfl ?_
    refine am_s_iload_n rfl dc301_3.1.2.2 ?_
    refine am_s_ic_ne dc301_3.2.1.1 rfl (fun c2 => ?_) (fun c2 => ?_)
    · refine am_s_iinc (ls' := [some (.ref 163), some (.int x1), some (.int x2), some (.int x3), some (.int x4), some (.int (x5 + 1))]) am_cc1 rfl rfl dc301_4.2.2.2 ?_
      refine am_s_goto rfl dc301_5.1 ?_
      exact (vi_f (vi_f q c1).2 c2)
    · refine am_s_aload_n rfl dc301_3.2.1.2 ?_
      refine am_s_iload rfl dc301_3.2.2.1 ?_
      refine am_s_iconst am_cc0 dc301_3.2.2.2 ?_
      refine am_s_iload_n rfl dc301_4.1.1.1 ?_
      refine am_s_iload_n rfl dc301_4.1.1.2 ?_
      refine am_s_iload rfl dc301_4.1.2.1 ?_
      exact am_s_virtual true dc301_4.1.2.2 rfl (by decide) rfl rfl rfl ((vi_t (vi_f q c1).2 (Decidable.not_not.mp c2)))
theorem v301_57 {sc : Option (Nat × (Nat → Int32))} {d k n : Nat} {P : am_O → Prop} {I : am_I} {J : am_J} {Pf : am_R} (hp : am_PF Pf) {x1 : Int32} {x2 : Int32} {x3 : Int32} {x4 : Int32} {x5 : Int32} {s0 : Int32} (q : (if s0 = 0 then (am_go sc d 301 (19, [some (.ref 163), some (.int x1), some (.int x2), some (.int x3), some (.int x4), some (.int (x5 + 1))], [], (am_SH, I, J, Pf), k, n) P) else (P (.inl (some (.int x5)), (am_SH, I, J, Pf), k, n)))) : am_go sc d 301 (57, [some (.ref 163), some (.int x1), some (.int x2), some (.int x3), some (.int x4), some (.int x5)], [.int s0], (am_SH, I, J, Pf), k, n) P := by
  refine am_s_if_eq dc301_4.2.1.1 rfl (fun c1 => ?_) (fun c1 => ?_)
  · refine am_s_iinc (ls' := [some (.ref 163), some (.int x1), some (.int x2), some (.int x3), some (.int x4), some (.int (x5 + 1))]) am_cc1 rfl rfl dc301_4.2.2.2 ?_
    refine am_s_goto rfl dc301_5.1 ?_
    exact (vi_t q c1)
  · refine am_s_iload rfl dc301_4.2.1.2 ?_
    exact am_s_ireturn dc301_4.2.2.1 rfl ((vi_f q c1))
-- grows (IIII)V
theorem v302_0 {sc : Option (Nat × (Nat → Int32))} {d k n : Nat} {P : am_O → Prop} {I : am_I} {J : am_J} {Pf : am_R} (hp : am_PF Pf) {x1 : Int32} {x2 : Int32} {x3 : Int32} {x4 : Int32} {l5 : Option Value} {l6 : Option Value} {l7 : Option Value} {l8 : Option Value} {l9 : Option Value} {l10 : Option Value} {l11 : Option Value} {l12 : Option Value} {l13 : Option Value} (q : (if (I 163 60) = 200 then (P (.inl none, (am_SH, I, J, Pf), k, n)) else (am_in (I 163 60) 200 = true) ∧ (am_in (I 163 60) 200 = true) ∧ (am_in (I 163 60) 200 = true) ∧ (am_in (I 163 60) 200 = true) ∧ (am_mth d 301 [.ref 163, .int x1, .int x2, .int x3] (am_SH, am_u (am_u (am_u (am_u (am_u I 194 (Int32.toNatClampNeg (I 163 60)) x1) 195 (Int32.toNatClampNeg (I 163 60)) x2) 196 (Int32.toNatClampNeg (I 163 60)) x3) 197 (Int32.toNatClampNeg (I 163 60)) x4) 163 60 ((I 163 60) + 1), J, Pf) (am_af sc d 302 66 [some (.ref 163), some (.int x1), some (.int x2), some (.int x3), some (.int x4), l5, l6, l7, l8, l9, l10, l11, l12, l13] [.int x3, .int x2, .int x1, .ref 163] [] (am_SH, am_u (am_u (am_u (am_u (am_u I 194 (Int32.toNatClampNeg (I 163 60)) x1) 195 (Int32.toNatClampNeg (I 163 60)) x2) 196 (Int32.toNatClampNeg (I 163 60)) x3) 197 (Int32.toNatClampNeg (I 163 60)) x4) 163 60 ((I 163 60) + 1), J, Pf) k n true P)))) : am_go sc d 302 (0, [some (.ref 163), some (.int x1), some (.int x2), some (.int x3), some (.int x4), l5, l6, l7, l8, l9, l10, l11, l12, l13], [], (am_SH, I, J, Pf), k, n) P := by
  refine am_s_aload_n rfl dc302_0.1.1.1 ?_
  refine am_x_getI (x := I 163 60) dc302_0.1.1.2 rfl rfl (Or.inl rfl) rfl ?_
  refine am_s_sipush am_cs200 dc302_0.1.2.1 ?_
  refine am_s_ic_ne dc302_0.1.2.2 rfl (fun c1 => ?_) (fun c1 => ?_)
  · refine am_s_aload_n rfl dc302_0.2.1.2 ?_
    refine am_s_getR (r := 194) dc302_0.2.2.1 rfl rfl rfl (hp _ _ _ rfl) ?_
    refine am_s_aload_n rfl dc302_0.2.2.2 ?_
    refine am_x_getI (x := I 163 60) dc302_1.1.1.1 rfl rfl (Or.inl rfl) rfl ?_
    refine am_s_iload_n rfl dc302_1.1.1.2 ?_
    refine am_s_iastore dc302_1.1.2.1 rfl ((vi_f q c1).1) rfl ?_
    refine am_s_aload_n rfl dc302_1.1.2.2 ?_
    refine am_s_getR (r := 195) dc302_1.2.1.1 rfl rfl rfl (hp _ _ _ rfl) ?_
    refine am_s_aload_n rfl dc302_1.2.1.2 ?_
    refine am_x_getI (x := I 163 60) dc302_1.2.2.1 rfl rfl (Or.inl rfl) rfl ?_
    refine am_s_iload_n rfl dc302_1.2.2.2 ?_
    refine am_s_iastore dc302_2.1.1.1 rfl ((vi_f q c1).2.1) rfl ?_
    refine am_s_aload_n rfl dc302_2.1.1.2 ?_
    refine am_s_getR (r := 196) dc302_2.1.2.1 rfl rfl rfl (hp _ _ _ rfl) ?_
    refine am_s_aload_n rfl dc302_2.1.2.2 ?_
    refine am_x_getI (x := I 163 60) dc302_2.2.1.1 rfl rfl (Or.inl rfl) rfl ?_
    refine am_s_iload_n rfl dc302_2.2.1.2 ?_
    refine am_s_iastore dc302_2.2.2.1 rfl ((vi_f q c1).2.2.1) rfl ?_
    refine am_s_aload_n rfl dc302_2.2.2.2 ?_
    refine am_s_getR (r := 197) dc302_3.1.1.1 rfl rfl rfl (hp _ _ _ rfl) ?_
    refine am_s_aload_n rfl dc302_3.1.1.2 ?_
    refine am_x_getI (x := I 163 60) dc302_3.1.2.1 rfl rfl (Or.inl rfl) rfl ?_
    refine am_s_iload rfl dc302_3.1.2.2 ?_
    refine am_s_iastore dc302_3.2.1.1 rfl ((vi_f q c1).2.2.2.1) rfl ?_
    refine am_s_aload_n rfl dc302_3.2.1.2 ?_
    refine am_s_dup rfl dc302_3.2.2.1 ?_
    refine am_x_getI (x := I 163 60) dc302_3.2.2.2 rfl rfl (Or.inl rfl) rfl ?_
    refine am_s_iconst am_cc1 dc302_4.1.1.1 ?_
    refine am_s_iadd dc302_4.1.1.2 ?_
    refine am_s_putI dc302_4.1.2.1 rfl rfl rfl rfl ?_
    refine am_s_aload_n rfl dc302_4.1.2.2 ?_
    refine am_s_iload_n rfl dc302_4.2.1.1 ?_
    refine am_s_iload_n rfl dc302_4.2.1.2 ?_
    refine am_s_iload_n rfl dc302_4.2.2.1 ?_
    exact am_s_virtual true dc302_4.2.2.2 rfl (by decide) rfl rfl rfl ((vi_f q c1).2.2.2.2)
  · exact am_s_return dc302_0.2.1.1 rfl ((vi_t q (Decidable.not_not.mp c1)))
theorem v302_110 {sc : Option (Nat × (Nat → Int32))} {d k n : Nat} {P : am_O → Prop} {I : am_I} {J : am_J} {Pf : am_R} (hp : am_PF Pf) {l1 : Option Value} {l2 : Option Value} {x3 : Int32} {x4 : Int32} {x5 : Int32} {x6 : Int32} {x7 : Int32} {x8 : Int32} {x9 : Int32} {x10 : Int32} {l11 : Option Value} {l12 : Option Value} {l13 : Option Value} (q : (am_in ((32 + (3 * x5)) + 2) 1040 = true) ∧ (if (I 167 (Int32.toNatClampNeg ((32 + (3 * x5)) + 2))) ≤ x10 then (am_go sc d 302 (301, [some (.ref 163), l1, l2, some (.int x3), some (.int x4), some (.int x5), some (.int x6), some (.int x7), some (.int x8), some (.int x9), some (.int 0), l11, l12, l13], [], (am_SH, I, J, Pf), k, n) P) else (am_mth d 268 [.ref 163, .int 0, .int x5, .int x10, .int x9] (am_SH, I, J, Pf) (am_af sc d 302 152 [some (.ref 163), l1, l2, some (.int x3), some (.int x4), some (.int x5), some (.int x6), some (.int x7), some (.int x8), some (.int x9), some (.int x10), some (.int (92 + (((4 * x5) + x10) * 11))), l12, l13] [.int x9, .int x10, .int x5, .int 0, .ref 163] [] (am_SH, I, J, Pf) k n true P)))) : am_go sc d 302 (110, [some (.ref 163), l1, l2, some (.int x3), some (.int x4), some (.int x5), some (.int x6), some (.int x7), some (.int x8), some (.int x9), some (.int x10), l11, l12, l13], [], (am_SH, I, J, Pf), k, n) P := by
  refine am_s_iload rfl dc302_8.1.2.1 ?_
  refine am_s_aload_n rfl dc302_8.1.2.2 ?_
  refine am_s_getR (r := 167) dc302_8.2.1.1 rfl rfl rfl (hp _ _ _ rfl) ?_
  refine am_s_bipush am_cb32 dc302_8.2.1.2 ?_
  refine am_s_iconst am_cc3 dc302_8.2.2.1 ?_
  refine am_s_iload rfl dc302_8.2.2.2 ?_
  refine am_s_imul dc302_9.1.1.1 ?_
  refine am_s_iadd dc302_9.1.1.2 ?_
  refine am_s_iconst am_cc2 dc302_9.1.2.1 ?_
  refine am_s_iadd dc302_9.1.2.2 ?_
  refine am_x_iaload (x := I 167 (Int32.toNatClampNeg ((32 + (3 * x5)) + 2))) dc302_9.2.1.1 rfl (q.1) rfl rfl ?_
  refine am_s_ic_ge dc302_9.2.1.2 rfl (fun c1 => ?_) (fun c1 => ?_)
  · refine am_s_iconst am_cc0 dc302_21.2.2.2 ?_
    refine am_s_istore (ls' := [some (.ref 163), l1, l2, some (.int x3), some (.int x4), some (.int x5), some (.int x6), some (.int x7), some (.int x8), some (.int x9), some (.int 0), l11, l12, l13]) rfl rfl dc302_22.1.1.1 ?_
    exact (vi_t q.2 c1)
  · refine am_s_bipush am_cb92 dc302_9.2.2.1 ?_
    refine am_s_iconst am_cc4 dc302_9.2.2.2 ?_
    refine am_s_iload rfl dc302_10.1.1.1 ?_
    refine am_s_imul dc302_10.1.1.2 ?_
    refine am_s_iload rfl dc302_10.1.2.1 ?_
    refine am_s_iadd dc302_10.1.2.2 ?_
    refine am_s_bipush am_cb11 dc302_10.2.1.1 ?_
    refine am_s_imul dc302_10.2.1.2 ?_
    refine am_s_iadd dc302_10.2.2.1 ?_
    refine am_s_istore (ls' := [some (.ref 163), l1, l2, some (.int x3), some (.int x4), some (.int x5), some (.int x6), some (.int x7), some (.int x8), some (.int x9), some (.int x10), some (.int (92 + (((4 * x5) + x10) * 11))), l12, l13]) rfl rfl dc302_10.2.2.2 ?_
    refine am_s_aload_n rfl dc302_11.1.1.1 ?_
    refine am_s_iconst am_cc0 dc302_11.1.1.2 ?_
    refine am_s_iload rfl dc302_11.1.2.1 ?_
    refine am_s_iload rfl dc302_11.1.2.2 ?_
    refine am_s_iload rfl dc302_11.2.1.1 ?_
    exact am_s_virtual true dc302_11.2.1.2 rfl (by decide) rfl rfl rfl ((vi_f q.2 c1))
theorem v302_186 {sc : Option (Nat × (Nat → Int32))} {d k n : Nat} {P : am_O → Prop} {I : am_I} {J : am_J} {Pf : am_R} (hp : am_PF Pf) {l1 : Option Value} {l2 : Option Value} {x3 : Int32} {x4 : Int32} {x5 : Int32} {x6 : Int32} {x7 : Int32} {x8 : Int32} {l9 : Option Value} {x10 : Int32} {x11 : Int32} {x12 : Int32} {x13 : Int32} (q : (am_in (x11 + 1) 1040 = true) ∧ (am_in ((((((0 : Int32) * 8) + (I 167 (Int32.toNatClampNeg (x11 + 1)))) * 625) + (x12 * 25)) + x13) 20000 = true) ∧ (if (I 184 (Int32.toNatClampNeg ((((((0 : Int32) * 8) + (I 167 (Int32.toNatClampNeg (x11 + 1)))) * 625) + (x12 * 25)) + x13))) ≤ 0 then (am_go sc (d + 2) 302 (186, [some (.ref 163), l1, l2, some (.int x3), some (.int x4), some (.int x5), some (.int x6), some (.int x7), some (.int x8), l9, some (.int x10), some (.int x11), some (.int x12), some (.int (x13 + 1))], [], (am_SH, I, J, Pf), k, n) P) else (if x6 < (I 184 (Int32.toNatClampNeg ((((((0 : Int32) * 8) + (I 167 (Int32.toNatClampNeg (x11 + 1)))) * 625) + (x12 * 25)) + x13))) then (am_go sc (d + 2) 302 (186, [some (.ref 163), l1, l2, some (.int x3), some (.int x4), some (.int x5), some (.int x6), some (.int x7), some (.int x8), l9, some (.int x10), some (.int x11), some (.int x12), some (.int (x13 + 1))], [], (am_SH, I, J, Pf), k, n) P) else (am_mth (d + 2) 299 [.ref 163, .int x5, .int (x10 + 1), .int x13, .int x3, .int x6] (am_SH, I, J, Pf) (am_af sc (d + 2) 302 220 [some (.ref 163), l1, l2, some (.int x3), some (.int x4), some (.int x5), some (.int x6), some (.int x7), some (.int x8), l9, some (.int x10), some (.int x11), some (.int x12), some (.int x13)] [.int x6, .int x3, .int x13, .int (x10 + 1), .int x5, .ref 163] [] (am_SH, I, J, Pf) k n true P))))) : am_go sc (d + 2) 302 (186, [some (.ref 163), l1, l2, some (.int x3), some (.int x4), some (.int x5), some (.int x6), some (.int x7), some (.int x8), l9, some (.int x10), some (.int x11), some (.int x12), some (.int x13)], [], (am_SH, I, J, Pf), k, n) P := by
  refine am_s_aload_n rfl dc302_13.2.2.1 ?_
  refine am_s_aload_n rfl dc302_13.2.2.2 ?_
  refine am_s_getR (r := 167) dc302_14.1.1.1 rfl rfl rfl (hp _ _ _ rfl) ?_
  refine am_s_iload rfl dc302_14.1.1.2 ?_
  refine am_s_iconst am_cc1 dc302_14.1.2.1 ?_
  refine am_s_iadd dc302_14.1.2.2 ?_
  refine am_x_iaload (x := I 167 (Int32.toNatClampNeg (x11 + 1))) dc302_14.2.1.1 rfl (q.1) rfl rfl ?_
  refine am_s_iload rfl dc302_14.2.1.2 ?_
  refine am_s_iload rfl dc302_14.2.2.1 ?_
  refine am_s_iload rfl dc302_14.2.2.2 ?_
  refine am_s_virtual true dc302_15.1.1.1 rfl (by decide) rfl rfl rfl (am_mth_of rfl rfl ?_)
  refine am_s_aload_n rfl dc300_0.1.1.1 ?_
  refine am_s_getR (r := 184) dc300_0.1.1.2 rfl rfl rfl (hp _ _ _ rfl) ?_
  refine am_s_iconst am_cc0 dc300_0.1.2.1 ?_
  refine am_s_iload_n rfl dc300_0.1.2.2 ?_
  refine am_s_iload_n rfl dc300_0.2.1.1 ?_
  refine am_s_iload_n rfl dc300_0.2.1.2 ?_
  refine am_s_static dc300_0.2.2.1 rfl rfl rfl (am_mth_of rfl rfl ?_)
  refine am_s_iload_n rfl dc256_0.1.1.1 ?_
  refine am_s_bipush am_cb8 dc256_0.1.1.2 ?_
  refine am_s_imul dc256_0.1.2.1 ?_
  refine am_s_iload_n rfl dc256_0.1.2.2 ?_
  refine am_s_iadd dc256_0.2.1.1 ?_
  refine am_s_sipush am_cs625 dc256_0.2.1.2 ?_
  refine am_s_imul dc256_0.2.2.1 ?_
  refine am_s_iload_n rfl dc256_0.2.2.2 ?_
  refine am_s_bipush am_cb25 dc256_1.1.1 ?_
  refine am_s_imul dc256_1.1.2.1 ?_
  refine am_s_iadd dc256_1.1.2.2 ?_
  refine am_s_iload_n rfl dc256_1.2.1 ?_
  refine am_s_iadd dc256_1.2.2.1 ?_
  refine am_s_ireturn dc256_1.2.2.2 rfl (am_bkI ?_)
  refine am_x_iaload (x := I 184 (Int32.toNatClampNeg ((((((0 : Int32) * 8) + (I 167 (Int32.toNatClampNeg (x11 + 1)))) * 625) + (x12 * 25)) + x13))) dc300_0.2.2.2 rfl (q.2.1) rfl rfl ?_
  refine am_s_istore (ls' := [some (.ref 163), some (.int (I 167 (Int32.toNatClampNeg (x11 + 1)))), some (.int x12), some (.int x13), some (.int x6), some (.int (I 184 (Int32.toNatClampNeg ((((((0 : Int32) * 8) + (I 167 (Int32.toNatClampNeg (x11 + 1)))) * 625) + (x12 * 25)) + x13))))]) rfl rfl dc300_1.1.1.1 ?_
  refine am_s_iload rfl dc300_1.1.1.2 ?_
  refine am_s_if_le dc300_1.1.2.1 rfl (fun c1 => ?_) (fun c1 => ?_)
  · refine am_s_iconst am_cc0 dc300_2.1 ?_
    refine am_s_zreturn dc300_2.2 rfl (by decide) (am_bkI ?_)
    refine am_s_if_eq dc302_15.1.1.2 rfl (fun _ => ?_) (fun z => absurd z (by decide))
    refine am_s_iinc (ls' := [some (.ref 163), l1, l2, some (.int x3), some (.int x4), some (.int x5), some (.int x6), some (.int x7), some (.int x8), l9, some (.int x10), some (.int x11), some (.int x12), some (.int (x13 + 1))]) am_cc1 rfl rfl dc302_16.2.1.1 ?_
    refine am_s_goto rfl dc302_16.2.1.2 ?_
    exact (vi_t q.2.2 c1)
  · refine am_s_iload rfl dc300_1.1.2.2 ?_
    refine am_s_iload rfl dc300_1.2.1.1 ?_
    refine am_s_ic_gt dc300_1.2.1.2 rfl (fun c2 => ?_) (fun c2 => ?_)
    · refine am_s_iconst am_cc0 dc300_2.1 ?_
      refine am_s_zreturn dc300_2.2 rfl (by decide) (am_bkI ?_)
      refine am_s_if_eq dc302_15.1.1.2 rfl (fun _ => ?_) (fun z => absurd z (by decide))
      refine am_s_iinc (ls' := [some (.ref 163), l1, l2, some (.int x3), some (.int x4), some (.int x5), some (.int x6), some (.int x7), some (.int x8), l9, some (.int x10), some (.int x11), some (.int x12), some (.int (x13 + 1))]) am_cc1 rfl rfl dc302_16.2.1.1 ?_
      refine am_s_goto rfl dc302_16.2.1.2 ?_
      exact (vi_t (vi_f q.2.2 c1) c2)
    · refine am_s_iconst am_cc1 dc300_1.2.2.1 ?_
      refine am_s_goto rfl dc300_1.2.2.2 ?_
      refine am_s_zreturn dc300_2.2 rfl (by decide) (am_bkI ?_)
      refine am_s_if_eq dc302_15.1.1.2 rfl (fun z => absurd z (by decide)) (fun _ => ?_)
      refine am_s_aload_n rfl dc302_15.1.2.1 ?_
      refine am_s_iload rfl dc302_15.1.2.2 ?_
      refine am_s_iload rfl dc302_15.2.1.1 ?_
      refine am_s_iconst am_cc1 dc302_15.2.1.2 ?_
      refine am_s_iadd dc302_15.2.2.1 ?_
      refine am_s_iload rfl dc302_15.2.2.2 ?_
      refine am_s_iload_n rfl dc302_16.1.1.1 ?_
      refine am_s_iload rfl dc302_16.1.1.2 ?_
      exact am_s_virtual true dc302_16.1.2.1 rfl (by decide) rfl rfl rfl ((vi_f (vi_f q.2.2 c1) c2))
theorem v302_301 {sc : Option (Nat × (Nat → Int32))} {d k n : Nat} {P : am_O → Prop} {I : am_I} {J : am_J} {Pf : am_R} (hp : am_PF Pf) {l1 : Option Value} {l2 : Option Value} {l3 : Option Value} {x4 : Int32} {l5 : Option Value} {l6 : Option Value} {x7 : Int32} {x8 : Int32} {l9 : Option Value} {x10 : Int32} {l11 : Option Value} {l12 : Option Value} {l13 : Option Value} (q : (if x8 ≤ x10 then (P (.inl none, (am_SH, I, J, Pf), k, n)) else (am_in (x7 + (3 * x10)) 2412 = true) ∧ (am_in ((x7 + (3 * x10)) + 1) 2412 = true) ∧ (am_in ((x7 + (3 * x10)) + 2) 2412 = true) ∧ (am_mth d 302 [.ref 163, .int (I 198 (Int32.toNatClampNeg (x7 + (3 * x10)))), .int (I 198 (Int32.toNatClampNeg ((x7 + (3 * x10)) + 1))), .int (I 198 (Int32.toNatClampNeg ((x7 + (3 * x10)) + 2))), .int (x4 + 1)] (am_SH, I, J, Pf) (am_af sc d 302 353 [some (.ref 163), l1, l2, l3, some (.int x4), l5, l6, some (.int x7), some (.int x8), l9, some (.int x10), l11, l12, l13] [.int (x4 + 1), .int (I 198 (Int32.toNatClampNeg ((x7 + (3 * x10)) + 2))), .int (I 198 (Int32.toNatClampNeg ((x7 + (3 * x10)) + 1))), .int (I 198 (Int32.toNatClampNeg (x7 + (3 * x10)))), .ref 163] [] (am_SH, I, J, Pf) k n true P)))) : am_go sc d 302 (301, [some (.ref 163), l1, l2, l3, some (.int x4), l5, l6, some (.int x7), some (.int x8), l9, some (.int x10), l11, l12, l13], [], (am_SH, I, J, Pf), k, n) P := by
  refine am_s_iload rfl dc302_22.1.1.2 ?_
  refine am_s_iload rfl dc302_22.1.2.1 ?_
  refine am_s_ic_ge dc302_22.1.2.2 rfl (fun c1 => ?_) (fun c1 => ?_)
  · exact am_s_return dc302_26.2.2.2 rfl ((vi_t q c1))
  · refine am_s_aload_n rfl dc302_22.2.1.1 ?_
    refine am_s_aload_n rfl dc302_22.2.1.2 ?_
    refine am_s_getR (r := 198) dc302_22.2.2.1 rfl rfl rfl (hp _ _ _ rfl) ?_
    refine am_s_iload rfl dc302_22.2.2.2 ?_
    refine am_s_iconst am_cc3 dc302_23.1.1.1 ?_
    refine am_s_iload rfl dc302_23.1.1.2 ?_
    refine am_s_imul dc302_23.1.2.1 ?_
    refine am_s_iadd dc302_23.1.2.2 ?_
    refine am_x_iaload (x := I 198 (Int32.toNatClampNeg (x7 + (3 * x10)))) dc302_23.2.1.1 rfl ((vi_f q c1).1) rfl rfl ?_
    refine am_s_aload_n rfl dc302_23.2.1.2 ?_
    refine am_s_getR (r := 198) dc302_23.2.2.1 rfl rfl rfl (hp _ _ _ rfl) ?_
    refine am_s_iload rfl dc302_23.2.2.2 ?_
    refine am_s_iconst am_cc3 dc302_24.1.1.1 ?_
    refine am_s_iload rfl dc302_24.1.1.2 ?_
    refine am_s_imul dc302_24.1.2.1 ?_
    refine am_s_iadd dc302_24.1.2.2 ?_
    refine am_s_iconst am_cc1 dc302_24.2.1.1 ?_
    refine am_s_iadd dc302_24.2.1.2 ?_
    refine am_x_iaload (x := I 198 (Int32.toNatClampNeg ((x7 + (3 * x10)) + 1))) dc302_24.2.2.1 rfl ((vi_f q c1).2.1) rfl rfl ?_
    refine am_s_aload_n rfl dc302_24.2.2.2 ?_
    refine am_s_getR (r := 198) dc302_25.1.1.1 rfl rfl rfl (hp _ _ _ rfl) ?_
    refine am_s_iload rfl dc302_25.1.1.2 ?_
    refine am_s_iconst am_cc3 dc302_25.1.2.1 ?_
    refine am_s_iload rfl dc302_25.1.2.2 ?_
    refine am_s_imul dc302_25.2.1.1 ?_
    refine am_s_iadd dc302_25.2.1.2 ?_
    refine am_s_iconst am_cc2 dc302_25.2.2.1 ?_
    refine am_s_iadd dc302_25.2.2.2 ?_
    refine am_x_iaload (x := I 198 (Int32.toNatClampNeg ((x7 + (3 * x10)) + 2))) dc302_26.1.1.1 rfl ((vi_f q c1).2.2.1) rfl rfl ?_
    refine am_s_iload rfl dc302_26.1.1.2 ?_
    refine am_s_iconst am_cc1 dc302_26.1.2.1 ?_
    refine am_s_iadd dc302_26.1.2.2 ?_
    exact am_s_virtual true dc302_26.2.1.1 rfl (by decide) rfl rfl rfl ((vi_f q c1).2.2.2)
theorem v302_69 {sc : Option (Nat × (Nat → Int32))} {d k n : Nat} {P : am_O → Prop} {I : am_I} {J : am_J} {Pf : am_R} (hp : am_PF Pf) {x1 : Int32} {x2 : Int32} {x3 : Int32} {x4 : Int32} {l5 : Option Value} {l6 : Option Value} {l7 : Option Value} {l8 : Option Value} {l9 : Option Value} {l10 : Option Value} {l11 : Option Value} {l12 : Option Value} {l13 : Option Value} {s0 : Int32} (q : (if s0 = (-1) then (P (.inl none, (am_SH, I, J, Pf), k, n)) else (am_in ((((((0 : Int32) * 8) + x1) * 625) + (x2 * 25)) + x3) 20000 = true) ∧ (am_go sc (d + 1) 302 (110, [some (.ref 163), some (.int x1), some (.int x2), some (.int x3), some (.int x4), some (.int s0), some (.int ((I 184 (Int32.toNatClampNeg ((((((0 : Int32) * 8) + x1) * 625) + (x2 * 25)) + x3))) - 1)), some (.int (12 * x4)), some (.int 0), some (.int x2), some (.int 0), l11, l12, l13], [], (am_SH, I, J, Pf), k, n) P))) : am_go sc (d + 1) 302 (69, [some (.ref 163), some (.int x1), some (.int x2), some (.int x3), some (.int x4), l5, l6, l7, l8, l9, l10, l11, l12, l13], [.int s0], (am_SH, I, J, Pf), k, n) P := by
  refine am_s_istore (ls' := [some (.ref 163), some (.int x1), some (.int x2), some (.int x3), some (.int x4), some (.int s0), l6, l7, l8, l9, l10, l11, l12, l13]) rfl rfl dc302_5.1.1.1 ?_
  refine am_s_iload rfl dc302_5.1.1.2 ?_
  refine am_s_iconst am_ccm1 dc302_5.1.2.1 ?_
  refine am_s_ic_ne dc302_5.1.2.2 rfl (fun c1 => ?_) (fun c1 => ?_)
  · refine am_s_aload_n rfl dc302_5.2.1.2 ?_
    refine am_s_getR (r := 184) dc302_5.2.2.1 rfl rfl rfl (hp _ _ _ rfl) ?_
    refine am_s_iconst am_cc0 dc302_5.2.2.2 ?_
    refine am_s_iload_n rfl dc302_6.1.1.1 ?_
    refine am_s_iload_n rfl dc302_6.1.1.2 ?_
    refine am_s_iload_n rfl dc302_6.1.2.1 ?_
    refine am_s_static dc302_6.1.2.2 rfl rfl rfl (am_mth_of rfl rfl ?_)
    refine am_s_iload_n rfl dc256_0.1.1.1 ?_
    refine am_s_bipush am_cb8 dc256_0.1.1.2 ?_
    refine am_s_imul dc256_0.1.2.1 ?_
    refine am_s_iload_n rfl dc256_0.1.2.2 ?_
    refine am_s_iadd dc256_0.2.1.1 ?_
    refine am_s_sipush am_cs625 dc256_0.2.1.2 ?_
    refine am_s_imul dc256_0.2.2.1 ?_
    refine am_s_iload_n rfl dc256_0.2.2.2 ?_
    refine am_s_bipush am_cb25 dc256_1.1.1 ?_
    refine am_s_imul dc256_1.1.2.1 ?_
    refine am_s_iadd dc256_1.1.2.2 ?_
    refine am_s_iload_n rfl dc256_1.2.1 ?_
    refine am_s_iadd dc256_1.2.2.1 ?_
    refine am_s_ireturn dc256_1.2.2.2 rfl (am_bkI ?_)
    refine am_x_iaload (x := I 184 (Int32.toNatClampNeg ((((((0 : Int32) * 8) + x1) * 625) + (x2 * 25)) + x3))) dc302_6.2.1.1 rfl ((vi_f q c1).1) rfl rfl ?_
    refine am_s_iconst am_cc1 dc302_6.2.1.2 ?_
    refine am_s_isub dc302_6.2.2.1 ?_
    refine am_s_istore (ls' := [some (.ref 163), some (.int x1), some (.int x2), some (.int x3), some (.int x4), some (.int s0), some (.int ((I 184 (Int32.toNatClampNeg ((((((0 : Int32) * 8) + x1) * 625) + (x2 * 25)) + x3))) - 1)), l7, l8, l9, l10, l11, l12, l13]) rfl rfl dc302_6.2.2.2 ?_
    refine am_s_bipush am_cb12 dc302_7.1.1.1 ?_
    refine am_s_iload rfl dc302_7.1.1.2 ?_
    refine am_s_imul dc302_7.1.2.1 ?_
    refine am_s_istore (ls' := [some (.ref 163), some (.int x1), some (.int x2), some (.int x3), some (.int x4), some (.int s0), some (.int ((I 184 (Int32.toNatClampNeg ((((((0 : Int32) * 8) + x1) * 625) + (x2 * 25)) + x3))) - 1)), some (.int (12 * x4)), l8, l9, l10, l11, l12, l13]) rfl rfl dc302_7.1.2.2 ?_
    refine am_s_iconst am_cc0 dc302_7.2.1.1 ?_
    refine am_s_istore (ls' := [some (.ref 163), some (.int x1), some (.int x2), some (.int x3), some (.int x4), some (.int s0), some (.int ((I 184 (Int32.toNatClampNeg ((((((0 : Int32) * 8) + x1) * 625) + (x2 * 25)) + x3))) - 1)), some (.int (12 * x4)), some (.int 0), l9, l10, l11, l12, l13]) rfl rfl dc302_7.2.1.2 ?_
    refine am_s_iload_n rfl dc302_7.2.2.1 ?_
    refine am_s_istore (ls' := [some (.ref 163), some (.int x1), some (.int x2), some (.int x3), some (.int x4), some (.int s0), some (.int ((I 184 (Int32.toNatClampNeg ((((((0 : Int32) * 8) + x1) * 625) + (x2 * 25)) + x3))) - 1)), some (.int (12 * x4)), some (.int 0), some (.int x2), l10, l11, l12, l13]) rfl rfl dc302_7.2.2.2 ?_
    refine am_s_iconst am_cc0 dc302_8.1.1.1 ?_
    refine am_s_istore (ls' := [some (.ref 163), some (.int x1), some (.int x2), some (.int x3), some (.int x4), some (.int s0), some (.int ((I 184 (Int32.toNatClampNeg ((((((0 : Int32) * 8) + x1) * 625) + (x2 * 25)) + x3))) - 1)), some (.int (12 * x4)), some (.int 0), some (.int x2), some (.int 0), l11, l12, l13]) rfl rfl dc302_8.1.1.2 ?_
    exact (vi_f q c1).2
  · exact am_s_return dc302_5.2.1.1 rfl ((vi_t q (Decidable.not_not.mp c1)))
theorem v302_155 {sc : Option (Nat × (Nat → Int32))} {d k n : Nat} {P : am_O → Prop} {I : am_I} {J : am_J} {Pf : am_R} (hp : am_PF Pf) {l1 : Option Value} {l2 : Option Value} {x3 : Int32} {x4 : Int32} {x5 : Int32} {x6 : Int32} {x7 : Int32} {x8 : Int32} {l9 : Option Value} {x10 : Int32} {x11 : Int32} {l12 : Option Value} {l13 : Option Value} {s0 : Int32} (q : (am_in x11 1040 = true) ∧ (if (I 167 (Int32.toNatClampNeg x11)) = 1 then (am_go sc d 302 (186, [some (.ref 163), l1, l2, some (.int x3), some (.int x4), some (.int x5), some (.int x6), some (.int x7), some (.int x8), l9, some (.int x10), some (.int x11), some (.int s0), some (.int s0)], [], (am_SH, I, J, Pf), k, n) P) else (am_mth d 269 [.ref 163, .int 0, .int x11, .int s0] (am_SH, I, J, Pf) (am_af sc d 302 174 [some (.ref 163), l1, l2, some (.int x3), some (.int x4), some (.int x5), some (.int x6), some (.int x7), some (.int x8), l9, some (.int x10), some (.int x11), some (.int s0), l13] [.int s0, .int x11, .int 0, .ref 163] [] (am_SH, I, J, Pf) k n true P)))) : am_go sc d 302 (155, [some (.ref 163), l1, l2, some (.int x3), some (.int x4), some (.int x5), some (.int x6), some (.int x7), some (.int x8), l9, some (.int x10), some (.int x11), l12, l13], [.int s0], (am_SH, I, J, Pf), k, n) P := by
  refine am_s_istore (ls' := [some (.ref 163), l1, l2, some (.int x3), some (.int x4), some (.int x5), some (.int x6), some (.int x7), some (.int x8), l9, some (.int x10), some (.int x11), some (.int s0), l13]) rfl rfl dc302_11.2.2.1 ?_
  refine am_s_aload_n rfl dc302_11.2.2.2 ?_
  refine am_s_getR (r := 167) dc302_12.1.1.1 rfl rfl rfl (hp _ _ _ rfl) ?_
  refine am_s_iload rfl dc302_12.1.1.2 ?_
  refine am_x_iaload (x := I 167 (Int32.toNatClampNeg x11)) dc302_12.1.2.1 rfl (q.1) rfl rfl ?_
  refine am_s_iconst am_cc1 dc302_12.1.2.2 ?_
  refine am_s_ic_eq dc302_12.2.1.1 rfl (fun c1 => ?_) (fun c1 => ?_)
  · refine am_s_iload rfl dc302_13.2.1.1 ?_
    refine am_s_istore (ls' := [some (.ref 163), l1, l2, some (.int x3), some (.int x4), some (.int x5), some (.int x6), some (.int x7), some (.int x8), l9, some (.int x10), some (.int x11), some (.int s0), some (.int s0)]) rfl rfl dc302_13.2.1.2 ?_
    exact (vi_t q.2 c1)
  · refine am_s_aload_n rfl dc302_12.2.1.2 ?_
    refine am_s_iconst am_cc0 dc302_12.2.2.1 ?_
    refine am_s_iload rfl dc302_12.2.2.2 ?_
    refine am_s_iload rfl dc302_13.1.1.1 ?_
    exact am_s_virtual true dc302_13.1.1.2 rfl (by decide) rfl rfl rfl ((vi_f q.2 c1))
theorem v302_223 {sc : Option (Nat × (Nat → Int32))} {d k n : Nat} {P : am_O → Prop} {I : am_I} {J : am_J} {Pf : am_R} (hp : am_PF Pf) {l1 : Option Value} {l2 : Option Value} {x3 : Int32} {x4 : Int32} {x5 : Int32} {x6 : Int32} {x7 : Int32} {x8 : Int32} {l9 : Option Value} {x10 : Int32} {x11 : Int32} {x12 : Int32} {x13 : Int32} {s0 : Int32} (q : (if s0 = 0 then (am_go sc d 302 (186, [some (.ref 163), l1, l2, some (.int x3), some (.int x4), some (.int x5), some (.int x6), some (.int x7), some (.int x8), l9, some (.int x10), some (.int x11), some (.int x12), some (.int (x13 + 1))], [], (am_SH, I, J, Pf), k, n) P) else (am_in (x11 + 1) 1040 = true) ∧ (am_in (x7 + (3 * x8)) 2412 = true) ∧ (am_in ((x7 + (3 * x8)) + 1) 2412 = true) ∧ (am_in ((x7 + (3 * x8)) + 2) 2412 = true) ∧ (am_go sc d 302 (110, [some (.ref 163), l1, l2, some (.int x3), some (.int x4), some (.int x5), some (.int x6), some (.int x7), some (.int (x8 + 1)), some (.int x13), some (.int (x10 + 1)), some (.int x11), some (.int x12), some (.int x13)], [], (am_SH, am_u (am_u (am_u I 198 (Int32.toNatClampNeg (x7 + (3 * x8))) (I 167 (Int32.toNatClampNeg (x11 + 1)))) 198 (Int32.toNatClampNeg ((x7 + (3 * x8)) + 1)) x12) 198 (Int32.toNatClampNeg ((x7 + (3 * x8)) + 2)) x13, J, Pf), k, n) P))) : am_go sc d 302 (223, [some (.ref 163), l1, l2, some (.int x3), some (.int x4), some (.int x5), some (.int x6), some (.int x7), some (.int x8), l9, some (.int x10), some (.int x11), some (.int x12), some (.int x13)], [.int s0], (am_SH, I, J, Pf), k, n) P := by
  refine am_s_if_ne dc302_16.1.2.2 rfl (fun c1 => ?_) (fun c1 => ?_)
  · refine am_s_aload_n rfl dc302_16.2.2.1 ?_
    refine am_s_getR (r := 198) dc302_16.2.2.2 rfl rfl rfl (hp _ _ _ rfl) ?_
    refine am_s_iload rfl dc302_17.1.1.1 ?_
    refine am_s_iconst am_cc3 dc302_17.1.1.2 ?_
    refine am_s_iload rfl dc302_17.1.2.1 ?_
    refine am_s_imul dc302_17.1.2.2 ?_
    refine am_s_iadd dc302_17.2.1.1 ?_
    refine am_s_aload_n rfl dc302_17.2.1.2 ?_
    refine am_s_getR (r := 167) dc302_17.2.2.1 rfl rfl rfl (hp _ _ _ rfl) ?_
    refine am_s_iload rfl dc302_17.2.2.2 ?_
    refine am_s_iconst am_cc1 dc302_18.1.1.1 ?_
    refine am_s_iadd dc302_18.1.1.2 ?_
    refine am_x_iaload (x := I 167 (Int32.toNatClampNeg (x11 + 1))) dc302_18.1.2.1 rfl ((vi_f q c1).1) rfl rfl ?_
    refine am_s_iastore dc302_18.1.2.2 rfl ((vi_f q c1).2.1) rfl ?_
    refine am_s_aload_n rfl dc302_18.2.1.1 ?_
    refine am_s_getR (r := 198) dc302_18.2.1.2 rfl rfl rfl (hp _ _ _ rfl) ?_
    refine am_s_iload rfl dc302_18.2.2.1 ?_
    refine am_s_iconst am_cc3 dc302_18.2.2.2 ?_
    refine am_s_iload rfl dc302_19.1.1.1 ?_
    refine am_s_imul dc302_19.1.1.2 ?_
    refine am_s_iadd dc302_19.1.2.1 ?_
    refine am_s_iconst am_cc1 dc302_19.1.2.2 ?_
    refine am_s_iadd dc302_19.2.1.1 ?_
    refine am_s_iload rfl dc302_19.2.1.2 ?_
    refine am_s_iastore dc302_19.2.2.1 rfl ((vi_f q c1).2.2.1) rfl ?_
    refine am_s_aload_n rfl dc302_19.2.2.2 ?_
    refine am_s_getR (r := 198) dc302_20.1.1.1 rfl rfl rfl (hp _ _ _ rfl) ?_
    refine am_s_iload rfl dc302_20.1.1.2 ?_
    refine am_s_iconst am_cc3 dc302_20.1.2.1 ?_
    refine am_s_iload rfl dc302_20.1.2.2 ?_
    refine am_s_imul dc302_20.2.1.1 ?_
    refine am_s_iadd dc302_20.2.1.2 ?_
    refine am_s_iconst am_cc2 dc302_20.2.2.1 ?_
    refine am_s_iadd dc302_20.2.2.2 ?_
    refine am_s_iload rfl dc302_21.1.1.1 ?_
    refine am_s_iastore dc302_21.1.1.2 rfl ((vi_f q c1).2.2.2.1) rfl ?_
    refine am_s_iinc (ls' := [some (.ref 163), l1, l2, some (.int x3), some (.int x4), some (.int x5), some (.int x6), some (.int x7), some (.int (x8 + 1)), l9, some (.int x10), some (.int x11), some (.int x12), some (.int x13)]) am_cc1 rfl rfl dc302_21.1.2.1 ?_
    refine am_s_iload rfl dc302_21.1.2.2 ?_
    refine am_s_istore (ls' := [some (.ref 163), l1, l2, some (.int x3), some (.int x4), some (.int x5), some (.int x6), some (.int x7), some (.int (x8 + 1)), some (.int x13), some (.int x10), some (.int x11), some (.int x12), some (.int x13)]) rfl rfl dc302_21.2.1.1 ?_
    refine am_s_iinc (ls' := [some (.ref 163), l1, l2, some (.int x3), some (.int x4), some (.int x5), some (.int x6), some (.int x7), some (.int (x8 + 1)), some (.int x13), some (.int (x10 + 1)), some (.int x11), some (.int x12), some (.int x13)]) am_cc1 rfl rfl dc302_21.2.1.2 ?_
    refine am_s_goto rfl dc302_21.2.2.1 ?_
    exact (vi_f q c1).2.2.2.2
  · refine am_s_iinc (ls' := [some (.ref 163), l1, l2, some (.int x3), some (.int x4), some (.int x5), some (.int x6), some (.int x7), some (.int x8), l9, some (.int x10), some (.int x11), some (.int x12), some (.int (x13 + 1))]) am_cc1 rfl rfl dc302_16.2.1.1 ?_
    refine am_s_goto rfl dc302_16.2.1.2 ?_
    exact (vi_t q (Decidable.not_not.mp c1))
theorem v302_356 {sc : Option (Nat × (Nat → Int32))} {d k n : Nat} {P : am_O → Prop} {I : am_I} {J : am_J} {Pf : am_R} (hp : am_PF Pf) {l1 : Option Value} {l2 : Option Value} {l3 : Option Value} {x4 : Int32} {l5 : Option Value} {l6 : Option Value} {x7 : Int32} {x8 : Int32} {l9 : Option Value} {x10 : Int32} {l11 : Option Value} {l12 : Option Value} {l13 : Option Value} (hl9 : am_k1 l9 = true) (q : (am_go sc d 302 (301, [some (.ref 163), l1, l2, l3, some (.int x4), l5, l6, some (.int x7), some (.int x8), l9, some (.int (x10 + 1)), l11, l12, l13], [], (am_SH, I, J, Pf), k, n) P)) : am_go sc d 302 (356, [some (.ref 163), l1, l2, l3, some (.int x4), l5, l6, some (.int x7), some (.int x8), l9, some (.int x10), l11, l12, l13], [], (am_SH, I, J, Pf), k, n) P := by
  refine am_s_iinc (ls' := [some (.ref 163), l1, l2, l3, some (.int x4), l5, l6, some (.int x7), some (.int x8), l9, some (.int (x10 + 1)), l11, l12, l13]) am_cc1 rfl (am_set1_k (am_kill_x (j := 9) rfl hl9) rfl) dc302_26.2.1.2 ?_
  refine am_s_goto rfl dc302_26.2.2.1 ?_
  exact q
theorem v302_177 {sc : Option (Nat × (Nat → Int32))} {d k n : Nat} {P : am_O → Prop} {I : am_I} {J : am_J} {Pf : am_R} (hp : am_PF Pf) {l1 : Option Value} {l2 : Option Value} {x3 : Int32} {x4 : Int32} {x5 : Int32} {x6 : Int32} {x7 : Int32} {x8 : Int32} {l9 : Option Value} {x10 : Int32} {l11 : Option Value} {l12 : Option Value} {l13 : Option Value} {s0 : Int32} (q : (am_go sc d 302 (110, [some (.ref 163), l1, l2, some (.int x3), some (.int x4), some (.int x5), some (.int x6), some (.int x7), some (.int x8), some (.int s0), some (.int (x10 + 1)), l11, l12, l13], [], (am_SH, I, J, Pf), k, n) P)) : am_go sc d 302 (177, [some (.ref 163), l1, l2, some (.int x3), some (.int x4), some (.int x5), some (.int x6), some (.int x7), some (.int x8), l9, some (.int x10), l11, l12, l13], [.int s0], (am_SH, I, J, Pf), k, n) P := by
  refine am_s_istore (ls' := [some (.ref 163), l1, l2, some (.int x3), some (.int x4), some (.int x5), some (.int x6), some (.int x7), some (.int x8), some (.int s0), some (.int x10), l11, l12, l13]) rfl rfl dc302_13.1.2.1 ?_
  refine am_s_goto rfl dc302_13.1.2.2 ?_
  refine am_s_iinc (ls' := [some (.ref 163), l1, l2, some (.int x3), some (.int x4), some (.int x5), some (.int x6), some (.int x7), some (.int x8), some (.int s0), some (.int (x10 + 1)), l11, l12, l13]) am_cc1 rfl rfl dc302_21.2.1.2 ?_
  refine am_s_goto rfl dc302_21.2.2.1 ?_
  exact q
-- growsOf (III)V
theorem v303_0 {sc : Option (Nat × (Nat → Int32))} {d k n : Nat} {P : am_O → Prop} {I : am_I} {J : am_J} {Pf : am_R} (hp : am_PF Pf) {x1 : Int32} {x2 : Int32} {x3 : Int32} (q : (am_mth d 271 [.ref 163] (am_SH, I, J, Pf) (am_af sc d 303 1 [some (.ref 163), some (.int x1), some (.int x2), some (.int x3)] [.ref 163] [] (am_SH, I, J, Pf) k n true P))) : am_go sc d 303 (0, [some (.ref 163), some (.int x1), some (.int x2), some (.int x3)], [], (am_SH, I, J, Pf), k, n) P := by
  refine am_s_aload_n rfl dc303_0.1.1.1 ?_
  exact am_s_virtual true dc303_0.1.1.2 rfl (by decide) rfl rfl rfl (q)
theorem v303_4 {sc : Option (Nat × (Nat → Int32))} {d k n : Nat} {P : am_O → Prop} {I : am_I} {J : am_J} {Pf : am_R} (hp : am_PF Pf) {x1 : Int32} {x2 : Int32} {x3 : Int32} (q : (am_in ((((((0 : Int32) * 8) + x1) * 625) + (x2 * 25)) + x3) 20000 = true) ∧ (if (I 184 (Int32.toNatClampNeg ((((((0 : Int32) * 8) + x1) * 625) + (x2 * 25)) + x3))) ≤ 0 then (P (.inl none, (am_SH, am_u I 163 60 0, J, Pf), k, n)) else (am_mth (d + 2) 302 [.ref 163, .int x1, .int x2, .int x3, .int 0] (am_SH, am_u I 163 60 0, J, Pf) (am_af sc (d + 2) 303 25 [some (.ref 163), some (.int x1), some (.int x2), some (.int x3)] [.int 0, .int x3, .int x2, .int x1, .ref 163] [] (am_SH, am_u I 163 60 0, J, Pf) k n true P)))) : am_go sc (d + 2) 303 (4, [some (.ref 163), some (.int x1), some (.int x2), some (.int x3)], [], (am_SH, I, J, Pf), k, n) P := by
  refine am_s_aload_n rfl dc303_0.1.2.1 ?_
  refine am_s_iconst am_cc0 dc303_0.1.2.2 ?_
  refine am_s_putI dc303_0.2.1.1 rfl rfl rfl rfl ?_
  refine am_s_aload_n rfl dc303_0.2.1.2 ?_
  refine am_s_iconst am_cc0 dc303_0.2.2.1 ?_
  refine am_s_iload_n rfl dc303_0.2.2.2 ?_
  refine am_s_iload_n rfl dc303_1.1.1.1 ?_
  refine am_s_iload_n rfl dc303_1.1.1.2 ?_
  refine am_s_virtual true dc303_1.1.2.1 rfl (by decide) rfl rfl rfl (am_mth_of rfl rfl ?_)
  refine am_s_aload_n rfl dc257_0.1.1.1 ?_
  refine am_s_getR (r := 184) dc257_0.1.1.2 rfl rfl rfl (hp _ _ _ rfl) ?_
  refine am_s_iload_n rfl dc257_0.1.2.1 ?_
  refine am_s_iload_n rfl dc257_0.1.2.2 ?_
  refine am_s_iload_n rfl dc257_0.2.1.1 ?_
  refine am_s_iload rfl dc257_0.2.1.2 ?_
  refine am_s_static dc257_0.2.2.1 rfl rfl rfl (am_mth_of rfl rfl ?_)
  refine am_s_iload_n rfl dc256_0.1.1.1 ?_
  refine am_s_bipush am_cb8 dc256_0.1.1.2 ?_
  refine am_s_imul dc256_0.1.2.1 ?_
  refine am_s_iload_n rfl dc256_0.1.2.2 ?_
  refine am_s_iadd dc256_0.2.1.1 ?_
  refine am_s_sipush am_cs625 dc256_0.2.1.2 ?_
  refine am_s_imul dc256_0.2.2.1 ?_
  refine am_s_iload_n rfl dc256_0.2.2.2 ?_
  refine am_s_bipush am_cb25 dc256_1.1.1 ?_
  refine am_s_imul dc256_1.1.2.1 ?_
  refine am_s_iadd dc256_1.1.2.2 ?_
  refine am_s_iload_n rfl dc256_1.2.1 ?_
  refine am_s_iadd dc256_1.2.2.1 ?_
  refine am_s_ireturn dc256_1.2.2.2 rfl (am_bkI ?_)
  refine am_x_iaload (x := I 184 (Int32.toNatClampNeg ((((((0 : Int32) * 8) + x1) * 625) + (x2 * 25)) + x3))) dc257_0.2.2.2 rfl (q.1) rfl rfl ?_
  refine am_s_if_le dc257_1.1.1 rfl (fun c1 => ?_) (fun c1 => ?_)
  · refine am_s_iconst am_cc0 dc257_1.2.2.1 ?_
    refine am_s_zreturn dc257_1.2.2.2 rfl (by decide) (am_bkI ?_)
    refine am_s_if_eq dc303_1.1.2.2 rfl (fun _ => ?_) (fun z => absurd z (by decide))
    exact am_s_return dc303_2.2.2 rfl ((vi_t q.2 c1))
  · refine am_s_iconst am_cc1 dc257_1.1.2 ?_
    refine am_s_goto rfl dc257_1.2.1 ?_
    refine am_s_zreturn dc257_1.2.2.2 rfl (by decide) (am_bkI ?_)
    refine am_s_if_eq dc303_1.1.2.2 rfl (fun z => absurd z (by decide)) (fun _ => ?_)
    refine am_s_aload_n rfl dc303_1.2.1.1 ?_
    refine am_s_iload_n rfl dc303_1.2.1.2 ?_
    refine am_s_iload_n rfl dc303_1.2.2.1 ?_
    refine am_s_iload_n rfl dc303_1.2.2.2 ?_
    refine am_s_iconst am_cc0 dc303_2.1 ?_
    exact am_s_virtual true dc303_2.2.1 rfl (by decide) rfl rfl rfl ((vi_f q.2 c1))
theorem v303_28 {sc : Option (Nat × (Nat → Int32))} {d k n : Nat} {P : am_O → Prop} {I : am_I} {J : am_J} {Pf : am_R} (hp : am_PF Pf) {l0 : Option Value} {l1 : Option Value} {l2 : Option Value} {l3 : Option Value} (q : (P (.inl none, (am_SH, I, J, Pf), k, n))) : am_go sc d 303 (28, [l0, l1, l2, l3], [], (am_SH, I, J, Pf), k, n) P := by
  exact am_s_return dc303_2.2.2 rfl (q)
-- nodes (III)I
theorem v304_0 {sc : Option (Nat × (Nat → Int32))} {d k n : Nat} {P : am_O → Prop} {I : am_I} {J : am_J} {Pf : am_R} (hp : am_PF Pf) {x1 : Int32} {x2 : Int32} {x3 : Int32} (q : (am_mth d 289 [.ref 163, .int x1, .int x2, .int x3] (am_SH, am_u I 163 0 0, J, Pf) (am_af sc d 304 9 [some (.ref 163), some (.int x1), some (.int x2), some (.int x3)] [.int x3, .int x2, .int x1, .ref 163] [] (am_SH, am_u I 163 0 0, J, Pf) k n true P))) : am_go sc d 304 (0, [some (.ref 163), some (.int x1), some (.int x2), some (.int x3)], [], (am_SH, I, J, Pf), k, n) P := by
  refine am_s_aload_n rfl dc304_0.1.1.1 ?_
  refine am_s_iconst am_cc0 dc304_0.1.1.2 ?_
  refine am_s_putI dc304_0.1.2.1 rfl rfl rfl rfl ?_
  refine am_s_aload_n rfl dc304_0.1.2.2 ?_
  refine am_s_iload_n rfl dc304_0.2.1.1 ?_
  refine am_s_iload_n rfl dc304_0.2.1.2 ?_
  refine am_s_iload_n rfl dc304_0.2.2.1 ?_
  exact am_s_virtual true dc304_0.2.2.2 rfl (by decide) rfl rfl rfl (q)
theorem v304_12 {sc : Option (Nat × (Nat → Int32))} {d k n : Nat} {P : am_O → Prop} {I : am_I} {J : am_J} {Pf : am_R} (hp : am_PF Pf) {x1 : Int32} {x2 : Int32} {x3 : Int32} {s0 : Int32} (q : (if s0 = 0 then (P (.inl (some (.int 0)), (am_SH, I, J, Pf), k, n)) else (am_mth d 303 [.ref 163, .int x1, .int x2, .int x3] (am_SH, I, J, Pf) (am_af sc d 304 21 [some (.ref 163), some (.int x1), some (.int x2), some (.int x3)] [.int x3, .int x2, .int x1, .ref 163] [] (am_SH, I, J, Pf) k n true P)))) : am_go sc d 304 (12, [some (.ref 163), some (.int x1), some (.int x2), some (.int x3)], [.int s0], (am_SH, I, J, Pf), k, n) P := by
  refine am_s_if_ne dc304_1.1.1.1 rfl (fun c1 => ?_) (fun c1 => ?_)
  · refine am_s_aload_n rfl dc304_1.1.2.2 ?_
    refine am_s_iload_n rfl dc304_1.2.1.1 ?_
    refine am_s_iload_n rfl dc304_1.2.1.2 ?_
    refine am_s_iload_n rfl dc304_1.2.2.1 ?_
    exact am_s_virtual true dc304_1.2.2.2 rfl (by decide) rfl rfl rfl ((vi_f q c1))
  · refine am_s_iconst am_cc0 dc304_1.1.1.2 ?_
    exact am_s_ireturn dc304_1.1.2.1 rfl ((vi_t q (Decidable.not_not.mp c1)))
theorem v304_24 {sc : Option (Nat × (Nat → Int32))} {d k n : Nat} {P : am_O → Prop} {I : am_I} {J : am_J} {Pf : am_R} (hp : am_PF Pf) {l1 : Option Value} {l2 : Option Value} {l3 : Option Value} (q : (P (.inl (some (.int (I 163 60))), (am_SH, I, J, Pf), k, n))) : am_go sc d 304 (24, [some (.ref 163), l1, l2, l3], [], (am_SH, I, J, Pf), k, n) P := by
  refine am_s_aload_n rfl dc304_2.1 ?_
  refine am_x_getI (x := I 163 60) dc304_2.2.1 rfl rfl (Or.inl rfl) rfl ?_
  exact am_s_ireturn dc304_2.2.2 rfl (q)
-- node (III)I
theorem v305_0 {sc : Option (Nat × (Nat → Int32))} {d k n : Nat} {P : am_O → Prop} {I : am_I} {J : am_J} {Pf : am_R} (hp : am_PF Pf) {x1 : Int32} {x2 : Int32} {x3 : Int32} {l4 : Option Value} {l5 : Option Value} {l6 : Option Value} (q : (if x1 < 0 then (P (.inl (some (.int 0)), (am_SH, am_u (am_u (am_u I 163 0 0) 163 0 1) 164 1 ((I 164 1) + 1), J, Pf), k, n)) else (if 7 < x1 then (P (.inl (some (.int 0)), (am_SH, am_u (am_u (am_u I 163 0 0) 163 0 1) 164 1 ((I 164 1) + 1), J, Pf), k, n)) else (if x2 < 0 then (P (.inl (some (.int 0)), (am_SH, am_u (am_u (am_u I 163 0 0) 163 0 1) 164 1 ((I 164 1) + 1), J, Pf), k, n)) else (if x3 < 0 then (P (.inl (some (.int 0)), (am_SH, am_u (am_u (am_u I 163 0 0) 163 0 1) 164 1 ((I 164 1) + 1), J, Pf), k, n)) else (if 5 < x3 then (P (.inl (some (.int 0)), (am_SH, am_u (am_u (am_u I 163 0 0) 163 0 1) 164 1 ((I 164 1) + 1), J, Pf), k, n)) else (am_mth (d + 1) 303 [.ref 163, .int x1, .int 0, .int (I 180 0)] (am_SH, am_u I 163 0 0, J, Pf) (am_af sc (d + 1) 305 53 [some (.ref 163), some (.int x1), some (.int x2), some (.int x3), l4, l5, l6] [.int (I 180 0), .int 0, .int x1, .ref 163] [] (am_SH, am_u I 163 0 0, J, Pf) k n true P)))))))) : am_go sc (d + 1) 305 (0, [some (.ref 163), some (.int x1), some (.int x2), some (.int x3), l4, l5, l6], [], (am_SH, I, J, Pf), k, n) P := by
  refine am_s_aload_n rfl dc305_0.1.1.1 ?_
  refine am_s_iconst am_cc0 dc305_0.1.1.2 ?_
  refine am_s_putI dc305_0.1.2.1 rfl rfl rfl rfl ?_
  refine am_s_aload_n rfl dc305_0.1.2.2 ?_
  refine am_s_iload_n rfl dc305_0.2.1.1 ?_
  refine am_s_iconst am_cc0 dc305_0.2.1.2 ?_
  refine am_s_bipush am_cb7 dc305_0.2.2.1 ?_
  refine am_s_static dc305_0.2.2.2 rfl rfl rfl (am_mth_of rfl rfl ?_)
  refine am_s_iload_n rfl dc190_0.1.1.1 ?_
  refine am_s_iload_n rfl dc190_0.1.1.2 ?_
  refine am_s_ic_lt dc190_0.1.2.1 rfl (fun c1 => ?_) (fun c1 => ?_)
  · refine am_s_iconst am_cc0 dc190_1.1 ?_
    refine am_s_zreturn dc190_1.2 rfl (by decide) (am_bkI ?_)
    refine am_s_if_eq dc305_1.1.1.1 rfl (fun _ => ?_) (fun z => absurd z (by decide))
    refine am_s_iconst am_cc0 dc305_2.1.2.1 ?_
    refine am_s_iconst am_cc1 dc305_2.1.2.2 ?_
    refine am_s_iconst am_cc1 dc305_2.2.1.1 ?_
    refine am_s_virtual true dc305_2.2.1.2 rfl (by decide) rfl rfl rfl (am_mth_of rfl rfl ?_)
    refine am_s_iload_n rfl dc189_0.1.1.1 ?_
    refine am_s_if_ne dc189_0.1.1.2 rfl (fun z => absurd z (by decide)) (fun _ => ?_)
    refine am_s_aload_n rfl dc189_0.1.2.1 ?_
    refine am_x_getI (x := 0) dc189_0.1.2.2 rfl rfl (Or.inl rfl) rfl ?_
    refine am_s_if_ne dc189_0.2.1.1 rfl (fun z => absurd z (by decide)) (fun _ => ?_)
    refine am_s_aload_n rfl dc189_0.2.1.2 ?_
    refine am_s_iload_n rfl dc189_0.2.2.1 ?_
    refine am_s_putI dc189_0.2.2.2 rfl rfl rfl rfl ?_
    refine am_s_aload_n rfl dc189_1.1.1.1 ?_
    refine am_s_getR (r := 164) dc189_1.1.1.2 rfl rfl rfl (hp _ _ _ rfl) ?_
    refine am_s_iload_n rfl dc189_1.1.2.1 ?_
    refine am_s_dup2 rfl rfl dc189_1.1.2.2 ?_
    refine am_x_iaload (x := I 164 1) dc189_1.2.1.1 rfl (by decide +kernel) am_cN1 rfl ?_
    refine am_s_iconst am_cc1 dc189_1.2.1.2 ?_
    refine am_s_iadd dc189_1.2.2.1 ?_
    refine am_s_iastore dc189_1.2.2.2 rfl (by decide +kernel) am_cN1 ?_
    refine am_s_aload_n rfl dc189_2.1.1 ?_
    refine am_x_getI (x := 1) dc189_2.1.2.1 rfl rfl (Or.inl rfl) rfl ?_
    refine am_s_if_ne dc189_2.1.2.2 rfl (fun _ => ?_) (fun z => absurd z (by decide))
    refine am_s_iconst am_cc0 dc189_2.2.2.1 ?_
    refine am_s_zreturn dc189_2.2.2.2 rfl (by decide) (am_bkI ?_)
    refine am_s_if_ne dc305_2.2.2.1 rfl (fun z => absurd z (by decide)) (fun _ => ?_)
    refine am_s_iconst am_cc0 dc305_2.2.2.2 ?_
    exact am_s_ireturn dc305_3.1.1.1 rfl ((vi_t q c1))
  · refine am_s_iload_n rfl dc190_0.1.2.2 ?_
    refine am_s_iload_n rfl dc190_0.2.1.1 ?_
    refine am_s_ic_gt dc190_0.2.1.2 rfl (fun c2 => ?_) (fun c2 => ?_)
    · refine am_s_iconst am_cc0 dc190_1.1 ?_
      refine am_s_zreturn dc190_1.2 rfl (by decide) (am_bkI ?_)
      refine am_s_if_eq dc305_1.1.1.1 rfl (fun _ => ?_) (fun z => absurd z (by decide))
      refine am_s_iconst am_cc0 dc305_2.1.2.1 ?_
      refine am_s_iconst am_cc1 dc305_2.1.2.2 ?_
      refine am_s_iconst am_cc1 dc305_2.2.1.1 ?_
      refine am_s_virtual true dc305_2.2.1.2 rfl (by decide) rfl rfl rfl (am_mth_of rfl rfl ?_)
      refine am_s_iload_n rfl dc189_0.1.1.1 ?_
      refine am_s_if_ne dc189_0.1.1.2 rfl (fun z => absurd z (by decide)) (fun _ => ?_)
      refine am_s_aload_n rfl dc189_0.1.2.1 ?_
      refine am_x_getI (x := 0) dc189_0.1.2.2 rfl rfl (Or.inl rfl) rfl ?_
      refine am_s_if_ne dc189_0.2.1.1 rfl (fun z => absurd z (by decide)) (fun _ => ?_)
      refine am_s_aload_n rfl dc189_0.2.1.2 ?_
      refine am_s_iload_n rfl dc189_0.2.2.1 ?_
      refine am_s_putI dc189_0.2.2.2 rfl rfl rfl rfl ?_
      refine am_s_aload_n rfl dc189_1.1.1.1 ?_
      refine am_s_getR (r := 164) dc189_1.1.1.2 rfl rfl rfl (hp _ _ _ rfl) ?_
      refine am_s_iload_n rfl dc189_1.1.2.1 ?_
      refine am_s_dup2 rfl rfl dc189_1.1.2.2 ?_
      refine am_x_iaload (x := I 164 1) dc189_1.2.1.1 rfl (by decide +kernel) am_cN1 rfl ?_
      refine am_s_iconst am_cc1 dc189_1.2.1.2 ?_
      refine am_s_iadd dc189_1.2.2.1 ?_
      refine am_s_iastore dc189_1.2.2.2 rfl (by decide +kernel) am_cN1 ?_
      refine am_s_aload_n rfl dc189_2.1.1 ?_
      refine am_x_getI (x := 1) dc189_2.1.2.1 rfl rfl (Or.inl rfl) rfl ?_
      refine am_s_if_ne dc189_2.1.2.2 rfl (fun _ => ?_) (fun z => absurd z (by decide))
      refine am_s_iconst am_cc0 dc189_2.2.2.1 ?_
      refine am_s_zreturn dc189_2.2.2.2 rfl (by decide) (am_bkI ?_)
      refine am_s_if_ne dc305_2.2.2.1 rfl (fun z => absurd z (by decide)) (fun _ => ?_)
      refine am_s_iconst am_cc0 dc305_2.2.2.2 ?_
      exact am_s_ireturn dc305_3.1.1.1 rfl ((vi_t (vi_f q c1) c2))
    · refine am_s_iconst am_cc1 dc190_0.2.2.1 ?_
      refine am_s_goto rfl dc190_0.2.2.2 ?_
      refine am_s_zreturn dc190_1.2 rfl (by decide) (am_bkI ?_)
      refine am_s_if_eq dc305_1.1.1.1 rfl (fun z => absurd z (by decide)) (fun _ => ?_)
      refine am_s_iload_n rfl dc305_1.1.1.2 ?_
      refine am_s_if_lt dc305_1.1.2.1 rfl (fun c3 => ?_) (fun c3 => ?_)
      · refine am_s_iconst am_cc0 dc305_2.1.2.1 ?_
        refine am_s_iconst am_cc1 dc305_2.1.2.2 ?_
        refine am_s_iconst am_cc1 dc305_2.2.1.1 ?_
        refine am_s_virtual true dc305_2.2.1.2 rfl (by decide) rfl rfl rfl (am_mth_of rfl rfl ?_)
        refine am_s_iload_n rfl dc189_0.1.1.1 ?_
        refine am_s_if_ne dc189_0.1.1.2 rfl (fun z => absurd z (by decide)) (fun _ => ?_)
        refine am_s_aload_n rfl dc189_0.1.2.1 ?_
        refine am_x_getI (x := 0) dc189_0.1.2.2 rfl rfl (Or.inl rfl) rfl ?_
        refine am_s_if_ne dc189_0.2.1.1 rfl (fun z => absurd z (by decide)) (fun _ => ?_)
        refine am_s_aload_n rfl dc189_0.2.1.2 ?_
        refine am_s_iload_n rfl dc189_0.2.2.1 ?_
        refine am_s_putI dc189_0.2.2.2 rfl rfl rfl rfl ?_
        refine am_s_aload_n rfl dc189_1.1.1.1 ?_
        refine am_s_getR (r := 164) dc189_1.1.1.2 rfl rfl rfl (hp _ _ _ rfl) ?_
        refine am_s_iload_n rfl dc189_1.1.2.1 ?_
        refine am_s_dup2 rfl rfl dc189_1.1.2.2 ?_
        refine am_x_iaload (x := I 164 1) dc189_1.2.1.1 rfl (by decide +kernel) am_cN1 rfl ?_
        refine am_s_iconst am_cc1 dc189_1.2.1.2 ?_
        refine am_s_iadd dc189_1.2.2.1 ?_
        refine am_s_iastore dc189_1.2.2.2 rfl (by decide +kernel) am_cN1 ?_
        refine am_s_aload_n rfl dc189_2.1.1 ?_
        refine am_x_getI (x := 1) dc189_2.1.2.1 rfl rfl (Or.inl rfl) rfl ?_
        refine am_s_if_ne dc189_2.1.2.2 rfl (fun _ => ?_) (fun z => absurd z (by decide))
        refine am_s_iconst am_cc0 dc189_2.2.2.1 ?_
        refine am_s_zreturn dc189_2.2.2.2 rfl (by decide) (am_bkI ?_)
        refine am_s_if_ne dc305_2.2.2.1 rfl (fun z => absurd z (by decide)) (fun _ => ?_)
        refine am_s_iconst am_cc0 dc305_2.2.2.2 ?_
        exact am_s_ireturn dc305_3.1.1.1 rfl ((vi_t (vi_f (vi_f q c1) c2) c3))
      · refine am_s_iload_n rfl dc305_1.1.2.2 ?_
        refine am_s_iconst am_cc0 dc305_1.2.1.1 ?_
        refine am_s_iconst am_cc5 dc305_1.2.1.2 ?_
        refine am_s_static dc305_1.2.2.1 rfl rfl rfl (am_mth_of rfl rfl ?_)
        refine am_s_iload_n rfl dc190_0.1.1.1 ?_
        refine am_s_iload_n rfl dc190_0.1.1.2 ?_
        refine am_s_ic_lt dc190_0.1.2.1 rfl (fun c4 => ?_) (fun c4 => ?_)
        · refine am_s_iconst am_cc0 dc190_1.1 ?_
          refine am_s_zreturn dc190_1.2 rfl (by decide) (am_bkI ?_)
          refine am_s_if_eq dc305_1.2.2.2 rfl (fun _ => ?_) (fun z => absurd z (by decide))
          refine am_s_iconst am_cc0 dc305_2.1.2.1 ?_
          refine am_s_iconst am_cc1 dc305_2.1.2.2 ?_
          refine am_s_iconst am_cc1 dc305_2.2.1.1 ?_
          refine am_s_virtual true dc305_2.2.1.2 rfl (by decide) rfl rfl rfl (am_mth_of rfl rfl ?_)
          refine am_s_iload_n rfl dc189_0.1.1.1 ?_
          refine am_s_if_ne dc189_0.1.1.2 rfl (fun z => absurd z (by decide)) (fun _ => ?_)
          refine am_s_aload_n rfl dc189_0.1.2.1 ?_
          refine am_x_getI (x := 0) dc189_0.1.2.2 rfl rfl (Or.inl rfl) rfl ?_
          refine am_s_if_ne dc189_0.2.1.1 rfl (fun z => absurd z (by decide)) (fun _ => ?_)
          refine am_s_aload_n rfl dc189_0.2.1.2 ?_
          refine am_s_iload_n rfl dc189_0.2.2.1 ?_
          refine am_s_putI dc189_0.2.2.2 rfl rfl rfl rfl ?_
          refine am_s_aload_n rfl dc189_1.1.1.1 ?_
          refine am_s_getR (r := 164) dc189_1.1.1.2 rfl rfl rfl (hp _ _ _ rfl) ?_
          refine am_s_iload_n rfl dc189_1.1.2.1 ?_
          refine am_s_dup2 rfl rfl dc189_1.1.2.2 ?_
          refine am_x_iaload (x := I 164 1) dc189_1.2.1.1 rfl (by decide +kernel) am_cN1 rfl ?_
          refine am_s_iconst am_cc1 dc189_1.2.1.2 ?_
          refine am_s_iadd dc189_1.2.2.1 ?_
          refine am_s_iastore dc189_1.2.2.2 rfl (by decide +kernel) am_cN1 ?_
          refine am_s_aload_n rfl dc189_2.1.1 ?_
          refine am_x_getI (x := 1) dc189_2.1.2.1 rfl rfl (Or.inl rfl) rfl ?_
          refine am_s_if_ne dc189_2.1.2.2 rfl (fun _ => ?_) (fun z => absurd z (by decide))
          refine am_s_iconst am_cc0 dc189_2.2.2.1 ?_
          refine am_s_zreturn dc189_2.2.2.2 rfl (by decide) (am_bkI ?_)
          refine am_s_if_ne dc305_2.2.2.1 rfl (fun z => absurd z (by decide)) (fun _ => ?_)
          refine am_s_iconst am_cc0 dc305_2.2.2.2 ?_
          exact am_s_ireturn dc305_3.1.1.1 rfl ((vi_t (vi_f (vi_f (vi_f q c1) c2) c3) c4))
        · refine am_s_iload_n rfl dc190_0.1.2.2 ?_
          refine am_s_iload_n rfl dc190_0.2.1.1 ?_
          refine am_s_ic_gt dc190_0.2.1.2 rfl (fun c5 => ?_) (fun c5 => ?_)
          · refine am_s_iconst am_cc0 dc190_1.1 ?_
            refine am_s_zreturn dc190_1.2 rfl (by decide) (am_bkI ?_)
            refine am_s_if_eq dc305_1.2.2.2 rfl (fun _ => ?_) (fun z => absurd z (by decide))
            refine am_s_iconst am_cc0 dc305_2.1.2.1 ?_
            refine am_s_iconst am_cc1 dc305_2.1.2.2 ?_
            refine am_s_iconst am_cc1 dc305_2.2.1.1 ?_
            refine am_s_virtual true dc305_2.2.1.2 rfl (by decide) rfl rfl rfl (am_mth_of rfl rfl ?_)
            refine am_s_iload_n rfl dc189_0.1.1.1 ?_
            refine am_s_if_ne dc189_0.1.1.2 rfl (fun z => absurd z (by decide)) (fun _ => ?_)
            refine am_s_aload_n rfl dc189_0.1.2.1 ?_
            refine am_x_getI (x := 0) dc189_0.1.2.2 rfl rfl (Or.inl rfl) rfl ?_
            refine am_s_if_ne dc189_0.2.1.1 rfl (fun z => absurd z (by decide)) (fun _ => ?_)
            refine am_s_aload_n rfl dc189_0.2.1.2 ?_
            refine am_s_iload_n rfl dc189_0.2.2.1 ?_
            refine am_s_putI dc189_0.2.2.2 rfl rfl rfl rfl ?_
            refine am_s_aload_n rfl dc189_1.1.1.1 ?_
            refine am_s_getR (r := 164) dc189_1.1.1.2 rfl rfl rfl (hp _ _ _ rfl) ?_
            refine am_s_iload_n rfl dc189_1.1.2.1 ?_
            refine am_s_dup2 rfl rfl dc189_1.1.2.2 ?_
            refine am_x_iaload (x := I 164 1) dc189_1.2.1.1 rfl (by decide +kernel) am_cN1 rfl ?_
            refine am_s_iconst am_cc1 dc189_1.2.1.2 ?_
            refine am_s_iadd dc189_1.2.2.1 ?_
            refine am_s_iastore dc189_1.2.2.2 rfl (by decide +kernel) am_cN1 ?_
            refine am_s_aload_n rfl dc189_2.1.1 ?_
            refine am_x_getI (x := 1) dc189_2.1.2.1 rfl rfl (Or.inl rfl) rfl ?_
            refine am_s_if_ne dc189_2.1.2.2 rfl (fun _ => ?_) (fun z => absurd z (by decide))
            refine am_s_iconst am_cc0 dc189_2.2.2.1 ?_
            refine am_s_zreturn dc189_2.2.2.2 rfl (by decide) (am_bkI ?_)
            refine am_s_if_ne dc305_2.2.2.1 rfl (fun z => absurd z (by decide)) (fun _ => ?_)
            refine am_s_iconst am_cc0 dc305_2.2.2.2 ?_
            exact am_s_ireturn dc305_3.1.1.1 rfl ((vi_t (vi_f (vi_f (vi_f (vi_f q c1) c2) c3) c4) c5))
          · refine am_s_iconst am_cc1 dc190_0.2.2.1 ?_
            refine am_s_goto rfl dc190_0.2.2.2 ?_
            refine am_s_zreturn dc190_1.2 rfl (by decide) (am_bkI ?_)
            refine am_s_if_eq dc305_1.2.2.2 rfl (fun z => absurd z (by decide)) (fun _ => ?_)
            refine am_s_iconst am_cc1 dc305_2.1.1.1 ?_
            refine am_s_goto rfl dc305_2.1.1.2 ?_
            refine am_s_iconst am_cc1 dc305_2.1.2.2 ?_
            refine am_s_iconst am_cc1 dc305_2.2.1.1 ?_
            refine am_s_virtual true dc305_2.2.1.2 rfl (by decide) rfl rfl rfl (am_mth_of rfl rfl ?_)
            refine am_s_iload_n rfl dc189_0.1.1.1 ?_
            refine am_s_if_ne dc189_0.1.1.2 rfl (fun _ => ?_) (fun z => absurd z (by decide))
            refine am_s_aload_n rfl dc189_2.1.1 ?_
            refine am_x_getI (x := 0) dc189_2.1.2.1 rfl rfl (Or.inl rfl) rfl ?_
            refine am_s_if_ne dc189_2.1.2.2 rfl (fun z => absurd z (by decide)) (fun _ => ?_)
            refine am_s_iconst am_cc1 dc189_2.2.1.1 ?_
            refine am_s_goto rfl dc189_2.2.1.2 ?_
            refine am_s_zreturn dc189_2.2.2.2 rfl (by decide) (am_bkI ?_)
            refine am_s_if_ne dc305_2.2.2.1 rfl (fun _ => ?_) (fun z => absurd z (by decide))
            refine am_s_aload_n rfl dc305_3.1.1.2 ?_
            refine am_s_iload_n rfl dc305_3.1.2.1 ?_
            refine am_s_iconst am_cc0 dc305_3.1.2.2 ?_
            refine am_s_aload_n rfl dc305_3.2.1.1 ?_
            refine am_s_getR (r := 180) dc305_3.2.1.2 rfl rfl rfl (hp _ _ _ rfl) ?_
            refine am_s_iconst am_cc0 dc305_3.2.2.1 ?_
            refine am_x_iaload (x := I 180 0) dc305_3.2.2.2 rfl (by decide +kernel) am_cN0 rfl ?_
            exact am_s_virtual true dc305_4.1.1.1 rfl (by decide) rfl rfl rfl ((vi_f (vi_f (vi_f (vi_f (vi_f q c1) c2) c3) c4) c5))
theorem v305_56 {sc : Option (Nat × (Nat → Int32))} {d k n : Nat} {P : am_O → Prop} {I : am_I} {J : am_J} {Pf : am_R} (hp : am_PF Pf) {l1 : Option Value} {x2 : Int32} {x3 : Int32} {l4 : Option Value} {l5 : Option Value} {l6 : Option Value} (q : (if x2 < (I 163 60) then (am_in x2 200 = true) ∧ (am_in x2 200 = true) ∧ (am_in x2 200 = true) ∧ (if 3 ≤ x3 then (if x3 = 3 then (am_in ((((((0 : Int32) * 8) + (I 194 (Int32.toNatClampNeg x2))) * 625) + ((I 195 (Int32.toNatClampNeg x2)) * 25)) + (I 196 (Int32.toNatClampNeg x2))) 20000 = true) ∧ (P (.inl (some (.int (I 184 (Int32.toNatClampNeg ((((((0 : Int32) * 8) + (I 194 (Int32.toNatClampNeg x2))) * 625) + ((I 195 (Int32.toNatClampNeg x2)) * 25)) + (I 196 (Int32.toNatClampNeg x2))))))), (am_SH, I, J, Pf), k, n)) else (if x3 = 4 then (am_mth (d + 1) 293 [.ref 163, .int (I 194 (Int32.toNatClampNeg x2)), .int (I 195 (Int32.toNatClampNeg x2)), .int (I 196 (Int32.toNatClampNeg x2))] (am_SH, I, J, Pf) (am_af sc (d + 1) 305 152 [some (.ref 163), l1, some (.int x2), some (.int x3), some (.int (I 194 (Int32.toNatClampNeg x2))), some (.int (I 195 (Int32.toNatClampNeg x2))), some (.int (I 196 (Int32.toNatClampNeg x2)))] [.int (I 196 (Int32.toNatClampNeg x2)), .int (I 195 (Int32.toNatClampNeg x2)), .int (I 194 (Int32.toNatClampNeg x2)), .ref 163] [] (am_SH, I, J, Pf) k n true P)) else (am_in x2 200 = true) ∧ (P (.inl (some (.int (I 197 (Int32.toNatClampNeg x2)))), (am_SH, I, J, Pf), k, n)))) else (if x3 = 0 then (P (.inl (some (.int (I 194 (Int32.toNatClampNeg x2)))), (am_SH, I, J, Pf), k, n)) else (if x3 = 1 then (P (.inl (some (.int (I 195 (Int32.toNatClampNeg x2)))), (am_SH, I, J, Pf), k, n)) else (P (.inl (some (.int (I 196 (Int32.toNatClampNeg x2)))), (am_SH, I, J, Pf), k, n))))) else (P (.inl (some (.int (-1))), (am_SH, I, J, Pf), k, n)))) : am_go sc (d + 1) 305 (56, [some (.ref 163), l1, some (.int x2), some (.int x3), l4, l5, l6], [], (am_SH, I, J, Pf), k, n) P := by
  refine am_s_iload_n rfl dc305_4.1.1.2 ?_
  refine am_s_aload_n rfl dc305_4.1.2.1 ?_
  refine am_x_getI (x := I 163 60) dc305_4.1.2.2 rfl rfl (Or.inl rfl) rfl ?_
  refine am_s_ic_lt dc305_4.2.1.1 rfl (fun c1 => ?_) (fun c1 => ?_)
  · refine am_s_aload_n rfl dc305_4.2.2.2 ?_
    refine am_s_getR (r := 194) dc305_5.1.1.1 rfl rfl rfl (hp _ _ _ rfl) ?_
    refine am_s_iload_n rfl dc305_5.1.1.2 ?_
    refine am_x_iaload (x := I 194 (Int32.toNatClampNeg x2)) dc305_5.1.2.1 rfl ((vi_t q c1).1) rfl rfl ?_
    refine am_s_istore (ls' := [some (.ref 163), l1, some (.int x2), some (.int x3), some (.int (I 194 (Int32.toNatClampNeg x2))), l5, l6]) rfl rfl dc305_5.1.2.2 ?_
    refine am_s_aload_n rfl dc305_5.2.1.1 ?_
    refine am_s_getR (r := 195) dc305_5.2.1.2 rfl rfl rfl (hp _ _ _ rfl) ?_
    refine am_s_iload_n rfl dc305_5.2.2.1 ?_
    refine am_x_iaload (x := I 195 (Int32.toNatClampNeg x2)) dc305_5.2.2.2 rfl ((vi_t q c1).2.1) rfl rfl ?_
    refine am_s_istore (ls' := [some (.ref 163), l1, some (.int x2), some (.int x3), some (.int (I 194 (Int32.toNatClampNeg x2))), some (.int (I 195 (Int32.toNatClampNeg x2))), l6]) rfl rfl dc305_6.1.1.1 ?_
    refine am_s_aload_n rfl dc305_6.1.1.2 ?_
    refine am_s_getR (r := 196) dc305_6.1.2.1 rfl rfl rfl (hp _ _ _ rfl) ?_
    refine am_s_iload_n rfl dc305_6.1.2.2 ?_
    refine am_x_iaload (x := I 196 (Int32.toNatClampNeg x2)) dc305_6.2.1.1 rfl ((vi_t q c1).2.2.1) rfl rfl ?_
    refine am_s_istore (ls' := [some (.ref 163), l1, some (.int x2), some (.int x3), some (.int (I 194 (Int32.toNatClampNeg x2))), some (.int (I 195 (Int32.toNatClampNeg x2))), some (.int (I 196 (Int32.toNatClampNeg x2)))]) rfl rfl dc305_6.2.1.2 ?_
    refine am_s_iload_n rfl dc305_6.2.2.1 ?_
    refine am_s_iconst am_cc3 dc305_6.2.2.2 ?_
    refine am_s_ic_ge dc305_7.1.1.1 rfl (fun c2 => ?_) (fun c2 => ?_)
    · refine am_s_iload_n rfl dc305_8.2.1.1 ?_
      refine am_s_iconst am_cc3 dc305_8.2.1.2 ?_
      refine am_s_ic_ne dc305_8.2.2.1 rfl (fun c3 => ?_) (fun c3 => ?_)
      · refine am_s_iload_n rfl dc305_10.1.1.1 ?_
        refine am_s_iconst am_cc4 dc305_10.1.1.2 ?_
        refine am_s_ic_ne dc305_10.1.2.1 rfl (fun c4 => ?_) (fun c4 => ?_)
        · refine am_s_aload_n rfl dc305_11.1.2.1 ?_
          refine am_s_getR (r := 197) dc305_11.1.2.2 rfl rfl rfl (hp _ _ _ rfl) ?_
          refine am_s_iload_n rfl dc305_11.2.1 ?_
          refine am_x_iaload (x := I 197 (Int32.toNatClampNeg x2)) dc305_11.2.2.1 rfl ((vi_f (vi_f (vi_t (vi_t q c1).2.2.2 c2) c3) c4).1) rfl rfl ?_
          exact am_s_ireturn dc305_11.2.2.2 rfl ((vi_f (vi_f (vi_t (vi_t q c1).2.2.2 c2) c3) c4).2)
        · refine am_s_aload_n rfl dc305_10.1.2.2 ?_
          refine am_s_iload rfl dc305_10.2.1.1 ?_
          refine am_s_iload rfl dc305_10.2.1.2 ?_
          refine am_s_iload rfl dc305_10.2.2.1 ?_
          exact am_s_virtual true dc305_10.2.2.2 rfl (by decide) rfl rfl rfl ((vi_t (vi_f (vi_t (vi_t q c1).2.2.2 c2) c3) (Decidable.not_not.mp c4)))
      · refine am_s_aload_n rfl dc305_8.2.2.2 ?_
        refine am_s_getR (r := 184) dc305_9.1.1.1 rfl rfl rfl (hp _ _ _ rfl) ?_
        refine am_s_iconst am_cc0 dc305_9.1.1.2 ?_
        refine am_s_iload rfl dc305_9.1.2.1 ?_
        refine am_s_iload rfl dc305_9.1.2.2 ?_
        refine am_s_iload rfl dc305_9.2.1.1 ?_
        refine am_s_static dc305_9.2.1.2 rfl rfl rfl (am_mth_of rfl rfl ?_)
        refine am_s_iload_n rfl dc256_0.1.1.1 ?_
        refine am_s_bipush am_cb8 dc256_0.1.1.2 ?_
        refine am_s_imul dc256_0.1.2.1 ?_
        refine am_s_iload_n rfl dc256_0.1.2.2 ?_
        refine am_s_iadd dc256_0.2.1.1 ?_
        refine am_s_sipush am_cs625 dc256_0.2.1.2 ?_
        refine am_s_imul dc256_0.2.2.1 ?_
        refine am_s_iload_n rfl dc256_0.2.2.2 ?_
        refine am_s_bipush am_cb25 dc256_1.1.1 ?_
        refine am_s_imul dc256_1.1.2.1 ?_
        refine am_s_iadd dc256_1.1.2.2 ?_
        refine am_s_iload_n rfl dc256_1.2.1 ?_
        refine am_s_iadd dc256_1.2.2.1 ?_
        refine am_s_ireturn dc256_1.2.2.2 rfl (am_bkI ?_)
        refine am_x_iaload (x := I 184 (Int32.toNatClampNeg ((((((0 : Int32) * 8) + (I 194 (Int32.toNatClampNeg x2))) * 625) + ((I 195 (Int32.toNatClampNeg x2)) * 25)) + (I 196 (Int32.toNatClampNeg x2))))) dc305_9.2.2.1 rfl ((vi_t (vi_t (vi_t q c1).2.2.2 c2) (Decidable.not_not.mp c3)).1) rfl rfl ?_
        refine am_s_goto rfl dc305_9.2.2.2 ?_
        exact am_s_ireturn dc305_11.2.2.2 rfl ((vi_t (vi_t (vi_t q c1).2.2.2 c2) (Decidable.not_not.mp c3)).2)
    · refine am_s_iload_n rfl dc305_7.1.1.2 ?_
      refine am_s_if_ne dc305_7.1.2.1 rfl (fun c3 => ?_) (fun c3 => ?_)
      · refine am_s_iload_n rfl dc305_7.2.1.2 ?_
        refine am_s_iconst am_cc1 dc305_7.2.2.1 ?_
        refine am_s_ic_ne dc305_7.2.2.2 rfl (fun c4 => ?_) (fun c4 => ?_)
        · refine am_s_iload rfl dc305_8.1.2.1 ?_
          exact am_s_ireturn dc305_8.1.2.2 rfl ((vi_f (vi_f (vi_f (vi_t q c1).2.2.2 c2) c3) c4))
        · refine am_s_iload rfl dc305_8.1.1.1 ?_
          refine am_s_goto rfl dc305_8.1.1.2 ?_
          exact am_s_ireturn dc305_8.1.2.2 rfl ((vi_t (vi_f (vi_f (vi_t q c1).2.2.2 c2) c3) (Decidable.not_not.mp c4)))
      · refine am_s_iload rfl dc305_7.1.2.2 ?_
        refine am_s_goto rfl dc305_7.2.1.1 ?_
        exact am_s_ireturn dc305_8.1.2.2 rfl ((vi_t (vi_f (vi_t q c1).2.2.2 c2) (Decidable.not_not.mp c3)))
  · refine am_s_iconst am_ccm1 dc305_4.2.1.2 ?_
    exact am_s_ireturn dc305_4.2.2.1 rfl ((vi_f q c1))
theorem v305_155 {sc : Option (Nat × (Nat → Int32))} {d k n : Nat} {P : am_O → Prop} {I : am_I} {J : am_J} {Pf : am_R} (hp : am_PF Pf) {l0 : Option Value} {l1 : Option Value} {l2 : Option Value} {l3 : Option Value} {l4 : Option Value} {l5 : Option Value} {l6 : Option Value} {s0 : Int32} (q : (P (.inl (some (.int s0)), (am_SH, I, J, Pf), k, n))) : am_go sc d 305 (155, [l0, l1, l2, l3, l4, l5, l6], [.int s0], (am_SH, I, J, Pf), k, n) P := by
  refine am_s_goto rfl dc305_11.1.1 ?_
  exact am_s_ireturn dc305_11.2.2.2 rfl (q)
-- worth (I)I
theorem v306_0 {sc : Option (Nat × (Nat → Int32))} {d k n : Nat} {P : am_O → Prop} {I : am_I} {J : am_J} {Pf : am_R} (hp : am_PF Pf) {x1 : Int32} {l2 : Option Value} {l3 : Option Value} (q : (if x1 < 0 then (P (.inl (some (.int 0)), (am_SH, am_u (am_u (am_u I 163 0 0) 163 0 1) 164 1 ((I 164 1) + 1), J, Pf), k, n)) else (if 7 < x1 then (P (.inl (some (.int 0)), (am_SH, am_u (am_u (am_u I 163 0 0) 163 0 1) 164 1 ((I 164 1) + 1), J, Pf), k, n)) else (am_mth (d + 1) 303 [.ref 163, .int x1, .int 0, .int (I 180 0)] (am_SH, am_u I 163 0 0, J, Pf) (am_af sc (d + 1) 306 32 [some (.ref 163), some (.int x1), l2, l3] [.int (I 180 0), .int 0, .int x1, .ref 163] [] (am_SH, am_u I 163 0 0, J, Pf) k n true P))))) : am_go sc (d + 1) 306 (0, [some (.ref 163), some (.int x1), l2, l3], [], (am_SH, I, J, Pf), k, n) P := by
  refine am_s_aload_n rfl dc306_0.1.1.1 ?_
  refine am_s_iconst am_cc0 dc306_0.1.1.2 ?_
  refine am_s_putI dc306_0.1.2.1 rfl rfl rfl rfl ?_
  refine am_s_aload_n rfl dc306_0.1.2.2 ?_
  refine am_s_iload_n rfl dc306_0.2.1.1 ?_
  refine am_s_iconst am_cc0 dc306_0.2.1.2 ?_
  refine am_s_bipush am_cb7 dc306_0.2.2.1 ?_
  refine am_s_static dc306_0.2.2.2 rfl rfl rfl (am_mth_of rfl rfl ?_)
  refine am_s_iload_n rfl dc190_0.1.1.1 ?_
  refine am_s_iload_n rfl dc190_0.1.1.2 ?_
  refine am_s_ic_lt dc190_0.1.2.1 rfl (fun c1 => ?_) (fun c1 => ?_)
  · refine am_s_iconst am_cc0 dc190_1.1 ?_
    refine am_s_zreturn dc190_1.2 rfl (by decide) (am_bkI ?_)
    refine am_s_iconst am_cc1 dc306_1.1.1.1 ?_
    refine am_s_iconst am_cc1 dc306_1.1.1.2 ?_
    refine am_s_virtual true dc306_1.1.2.1 rfl (by decide) rfl rfl rfl (am_mth_of rfl rfl ?_)
    refine am_s_iload_n rfl dc189_0.1.1.1 ?_
    refine am_s_if_ne dc189_0.1.1.2 rfl (fun z => absurd z (by decide)) (fun _ => ?_)
    refine am_s_aload_n rfl dc189_0.1.2.1 ?_
    refine am_x_getI (x := 0) dc189_0.1.2.2 rfl rfl (Or.inl rfl) rfl ?_
    refine am_s_if_ne dc189_0.2.1.1 rfl (fun z => absurd z (by decide)) (fun _ => ?_)
    refine am_s_aload_n rfl dc189_0.2.1.2 ?_
    refine am_s_iload_n rfl dc189_0.2.2.1 ?_
    refine am_s_putI dc189_0.2.2.2 rfl rfl rfl rfl ?_
    refine am_s_aload_n rfl dc189_1.1.1.1 ?_
    refine am_s_getR (r := 164) dc189_1.1.1.2 rfl rfl rfl (hp _ _ _ rfl) ?_
    refine am_s_iload_n rfl dc189_1.1.2.1 ?_
    refine am_s_dup2 rfl rfl dc189_1.1.2.2 ?_
    refine am_x_iaload (x := I 164 1) dc189_1.2.1.1 rfl (by decide +kernel) am_cN1 rfl ?_
    refine am_s_iconst am_cc1 dc189_1.2.1.2 ?_
    refine am_s_iadd dc189_1.2.2.1 ?_
    refine am_s_iastore dc189_1.2.2.2 rfl (by decide +kernel) am_cN1 ?_
    refine am_s_aload_n rfl dc189_2.1.1 ?_
    refine am_x_getI (x := 1) dc189_2.1.2.1 rfl rfl (Or.inl rfl) rfl ?_
    refine am_s_if_ne dc189_2.1.2.2 rfl (fun _ => ?_) (fun z => absurd z (by decide))
    refine am_s_iconst am_cc0 dc189_2.2.2.1 ?_
    refine am_s_zreturn dc189_2.2.2.2 rfl (by decide) (am_bkI ?_)
    refine am_s_if_ne dc306_1.1.2.2 rfl (fun z => absurd z (by decide)) (fun _ => ?_)
    refine am_s_iconst am_cc0 dc306_1.2.1.1 ?_
    exact am_s_ireturn dc306_1.2.1.2 rfl ((vi_t q c1))
  · refine am_s_iload_n rfl dc190_0.1.2.2 ?_
    refine am_s_iload_n rfl dc190_0.2.1.1 ?_
    refine am_s_ic_gt dc190_0.2.1.2 rfl (fun c2 => ?_) (fun c2 => ?_)
    · refine am_s_iconst am_cc0 dc190_1.1 ?_
      refine am_s_zreturn dc190_1.2 rfl (by decide) (am_bkI ?_)
      refine am_s_iconst am_cc1 dc306_1.1.1.1 ?_
      refine am_s_iconst am_cc1 dc306_1.1.1.2 ?_
      refine am_s_virtual true dc306_1.1.2.1 rfl (by decide) rfl rfl rfl (am_mth_of rfl rfl ?_)
      refine am_s_iload_n rfl dc189_0.1.1.1 ?_
      refine am_s_if_ne dc189_0.1.1.2 rfl (fun z => absurd z (by decide)) (fun _ => ?_)
      refine am_s_aload_n rfl dc189_0.1.2.1 ?_
      refine am_x_getI (x := 0) dc189_0.1.2.2 rfl rfl (Or.inl rfl) rfl ?_
      refine am_s_if_ne dc189_0.2.1.1 rfl (fun z => absurd z (by decide)) (fun _ => ?_)
      refine am_s_aload_n rfl dc189_0.2.1.2 ?_
      refine am_s_iload_n rfl dc189_0.2.2.1 ?_
      refine am_s_putI dc189_0.2.2.2 rfl rfl rfl rfl ?_
      refine am_s_aload_n rfl dc189_1.1.1.1 ?_
      refine am_s_getR (r := 164) dc189_1.1.1.2 rfl rfl rfl (hp _ _ _ rfl) ?_
      refine am_s_iload_n rfl dc189_1.1.2.1 ?_
      refine am_s_dup2 rfl rfl dc189_1.1.2.2 ?_
      refine am_x_iaload (x := I 164 1) dc189_1.2.1.1 rfl (by decide +kernel) am_cN1 rfl ?_
      refine am_s_iconst am_cc1 dc189_1.2.1.2 ?_
      refine am_s_iadd dc189_1.2.2.1 ?_
      refine am_s_iastore dc189_1.2.2.2 rfl (by decide +kernel) am_cN1 ?_
      refine am_s_aload_n rfl dc189_2.1.1 ?_
      refine am_x_getI (x := 1) dc189_2.1.2.1 rfl rfl (Or.inl rfl) rfl ?_
      refine am_s_if_ne dc189_2.1.2.2 rfl (fun _ => ?_) (fun z => absurd z (by decide))
      refine am_s_iconst am_cc0 dc189_2.2.2.1 ?_
      refine am_s_zreturn dc189_2.2.2.2 rfl (by decide) (am_bkI ?_)
      refine am_s_if_ne dc306_1.1.2.2 rfl (fun z => absurd z (by decide)) (fun _ => ?_)
      refine am_s_iconst am_cc0 dc306_1.2.1.1 ?_
      exact am_s_ireturn dc306_1.2.1.2 rfl ((vi_t (vi_f q c1) c2))
    · refine am_s_iconst am_cc1 dc190_0.2.2.1 ?_
      refine am_s_goto rfl dc190_0.2.2.2 ?_
      refine am_s_zreturn dc190_1.2 rfl (by decide) (am_bkI ?_)
      refine am_s_iconst am_cc1 dc306_1.1.1.1 ?_
      refine am_s_iconst am_cc1 dc306_1.1.1.2 ?_
      refine am_s_virtual true dc306_1.1.2.1 rfl (by decide) rfl rfl rfl (am_mth_of rfl rfl ?_)
      refine am_s_iload_n rfl dc189_0.1.1.1 ?_
      refine am_s_if_ne dc189_0.1.1.2 rfl (fun _ => ?_) (fun z => absurd z (by decide))
      refine am_s_aload_n rfl dc189_2.1.1 ?_
      refine am_x_getI (x := 0) dc189_2.1.2.1 rfl rfl (Or.inl rfl) rfl ?_
      refine am_s_if_ne dc189_2.1.2.2 rfl (fun z => absurd z (by decide)) (fun _ => ?_)
      refine am_s_iconst am_cc1 dc189_2.2.1.1 ?_
      refine am_s_goto rfl dc189_2.2.1.2 ?_
      refine am_s_zreturn dc189_2.2.2.2 rfl (by decide) (am_bkI ?_)
      refine am_s_if_ne dc306_1.1.2.2 rfl (fun _ => ?_) (fun z => absurd z (by decide))
      refine am_s_aload_n rfl dc306_1.2.2.1 ?_
      refine am_s_iload_n rfl dc306_1.2.2.2 ?_
      refine am_s_iconst am_cc0 dc306_2.1.1.1 ?_
      refine am_s_aload_n rfl dc306_2.1.1.2 ?_
      refine am_s_getR (r := 180) dc306_2.1.2.1 rfl rfl rfl (hp _ _ _ rfl) ?_
      refine am_s_iconst am_cc0 dc306_2.1.2.2 ?_
      refine am_x_iaload (x := I 180 0) dc306_2.2.1.1 rfl (by decide +kernel) am_cN0 rfl ?_
      exact am_s_virtual true dc306_2.2.1.2 rfl (by decide) rfl rfl rfl ((vi_f (vi_f q c1) c2))
theorem v306_39 {sc : Option (Nat × (Nat → Int32))} {d k n : Nat} {P : am_O → Prop} {I : am_I} {J : am_J} {Pf : am_R} (hp : am_PF Pf) {l1 : Option Value} {x2 : Int32} {x3 : Int32} (q : (if (I 163 60) ≤ x3 then (P (.inl (some (.int x2)), (am_SH, I, J, Pf), k, n)) else (am_in x3 200 = true) ∧ (am_in x3 200 = true) ∧ (am_in x3 200 = true) ∧ (am_in x3 200 = true) ∧ (am_in x3 200 = true) ∧ (am_in x3 200 = true) ∧ (am_in ((((((0 : Int32) * 8) + (I 194 (Int32.toNatClampNeg x3))) * 625) + ((I 195 (Int32.toNatClampNeg x3)) * 25)) + (I 196 (Int32.toNatClampNeg x3))) 20000 = true) ∧ (am_in x3 200 = true) ∧ (am_in x3 200 = true) ∧ (am_in x3 200 = true) ∧ (am_mth (d + 1) 293 [.ref 163, .int (I 194 (Int32.toNatClampNeg x3)), .int (I 195 (Int32.toNatClampNeg x3)), .int (I 196 (Int32.toNatClampNeg x3))] (am_SH, I, J, Pf) (am_af sc (d + 1) 306 113 [some (.ref 163), l1, some (.int x2), some (.int x3)] [.int (I 196 (Int32.toNatClampNeg x3)), .int (I 195 (Int32.toNatClampNeg x3)), .int (I 194 (Int32.toNatClampNeg x3)), .ref 163, .int (I 184 (Int32.toNatClampNeg ((((((0 : Int32) * 8) + (I 194 (Int32.toNatClampNeg x3))) * 625) + ((I 195 (Int32.toNatClampNeg x3)) * 25)) + (I 196 (Int32.toNatClampNeg x3))))), .int (I 196 (Int32.toNatClampNeg x3)), .int (I 195 (Int32.toNatClampNeg x3)), .int (I 194 (Int32.toNatClampNeg x3)), .ref 163, .int x2] [.int (I 184 (Int32.toNatClampNeg ((((((0 : Int32) * 8) + (I 194 (Int32.toNatClampNeg x3))) * 625) + ((I 195 (Int32.toNatClampNeg x3)) * 25)) + (I 196 (Int32.toNatClampNeg x3))))), .int (I 196 (Int32.toNatClampNeg x3)), .int (I 195 (Int32.toNatClampNeg x3)), .int (I 194 (Int32.toNatClampNeg x3)), .ref 163, .int x2] (am_SH, I, J, Pf) k n true P)))) : am_go sc (d + 1) 306 (39, [some (.ref 163), l1, some (.int x2), some (.int x3)], [], (am_SH, I, J, Pf), k, n) P := by
  refine am_s_iload_n rfl dc306_3.1.2.1 ?_
  refine am_s_aload_n rfl dc306_3.1.2.2 ?_
  refine am_x_getI (x := I 163 60) dc306_3.2.1.1 rfl rfl (Or.inl rfl) rfl ?_
  refine am_s_ic_ge dc306_3.2.1.2 rfl (fun c1 => ?_) (fun c1 => ?_)
  · refine am_s_iload_n rfl dc306_10.2.2.1 ?_
    exact am_s_ireturn dc306_10.2.2.2 rfl ((vi_t q c1))
  · refine am_s_iload_n rfl dc306_3.2.2.1 ?_
    refine am_s_aload_n rfl dc306_3.2.2.2 ?_
    refine am_s_aload_n rfl dc306_4.1.1.1 ?_
    refine am_s_getR (r := 194) dc306_4.1.1.2 rfl rfl rfl (hp _ _ _ rfl) ?_
    refine am_s_iload_n rfl dc306_4.1.2.1 ?_
    refine am_x_iaload (x := I 194 (Int32.toNatClampNeg x3)) dc306_4.1.2.2 rfl ((vi_f q c1).1) rfl rfl ?_
    refine am_s_aload_n rfl dc306_4.2.1.1 ?_
    refine am_s_getR (r := 195) dc306_4.2.1.2 rfl rfl rfl (hp _ _ _ rfl) ?_
    refine am_s_iload_n rfl dc306_4.2.2.1 ?_
    refine am_x_iaload (x := I 195 (Int32.toNatClampNeg x3)) dc306_4.2.2.2 rfl ((vi_f q c1).2.1) rfl rfl ?_
    refine am_s_aload_n rfl dc306_5.1.1.1 ?_
    refine am_s_getR (r := 196) dc306_5.1.1.2 rfl rfl rfl (hp _ _ _ rfl) ?_
    refine am_s_iload_n rfl dc306_5.1.2.1 ?_
    refine am_x_iaload (x := I 196 (Int32.toNatClampNeg x3)) dc306_5.1.2.2 rfl ((vi_f q c1).2.2.1) rfl rfl ?_
    refine am_s_aload_n rfl dc306_5.2.1.1 ?_
    refine am_s_getR (r := 184) dc306_5.2.1.2 rfl rfl rfl (hp _ _ _ rfl) ?_
    refine am_s_iconst am_cc0 dc306_5.2.2.1 ?_
    refine am_s_aload_n rfl dc306_5.2.2.2 ?_
    refine am_s_getR (r := 194) dc306_6.1.1.1 rfl rfl rfl (hp _ _ _ rfl) ?_
    refine am_s_iload_n rfl dc306_6.1.1.2 ?_
    refine am_x_iaload (x := I 194 (Int32.toNatClampNeg x3)) dc306_6.1.2.1 rfl ((vi_f q c1).2.2.2.1) rfl rfl ?_
    refine am_s_aload_n rfl dc306_6.1.2.2 ?_
    refine am_s_getR (r := 195) dc306_6.2.1.1 rfl rfl rfl (hp _ _ _ rfl) ?_
    refine am_s_iload_n rfl dc306_6.2.1.2 ?_
    refine am_x_iaload (x := I 195 (Int32.toNatClampNeg x3)) dc306_6.2.2.1 rfl ((vi_f q c1).2.2.2.2.1) rfl rfl ?_
    refine am_s_aload_n rfl dc306_6.2.2.2 ?_
    refine am_s_getR (r := 196) dc306_7.1.1.1 rfl rfl rfl (hp _ _ _ rfl) ?_
    refine am_s_iload_n rfl dc306_7.1.1.2 ?_
    refine am_x_iaload (x := I 196 (Int32.toNatClampNeg x3)) dc306_7.1.2.1 rfl ((vi_f q c1).2.2.2.2.2.1) rfl rfl ?_
    refine am_s_static dc306_7.1.2.2 rfl rfl rfl (am_mth_of rfl rfl ?_)
    refine am_s_iload_n rfl dc256_0.1.1.1 ?_
    refine am_s_bipush am_cb8 dc256_0.1.1.2 ?_
    refine am_s_imul dc256_0.1.2.1 ?_
    refine am_s_iload_n rfl dc256_0.1.2.2 ?_
    refine am_s_iadd dc256_0.2.1.1 ?_
    refine am_s_sipush am_cs625 dc256_0.2.1.2 ?_
    refine am_s_imul dc256_0.2.2.1 ?_
    refine am_s_iload_n rfl dc256_0.2.2.2 ?_
    refine am_s_bipush am_cb25 dc256_1.1.1 ?_
    refine am_s_imul dc256_1.1.2.1 ?_
    refine am_s_iadd dc256_1.1.2.2 ?_
    refine am_s_iload_n rfl dc256_1.2.1 ?_
    refine am_s_iadd dc256_1.2.2.1 ?_
    refine am_s_ireturn dc256_1.2.2.2 rfl (am_bkI ?_)
    refine am_x_iaload (x := I 184 (Int32.toNatClampNeg ((((((0 : Int32) * 8) + (I 194 (Int32.toNatClampNeg x3))) * 625) + ((I 195 (Int32.toNatClampNeg x3)) * 25)) + (I 196 (Int32.toNatClampNeg x3))))) dc306_7.2.1.1 rfl ((vi_f q c1).2.2.2.2.2.2.1) rfl rfl ?_
    refine am_s_aload_n rfl dc306_7.2.1.2 ?_
    refine am_s_aload_n rfl dc306_7.2.2.1 ?_
    refine am_s_getR (r := 194) dc306_7.2.2.2 rfl rfl rfl (hp _ _ _ rfl) ?_
    refine am_s_iload_n rfl dc306_8.1.1.1 ?_
    refine am_x_iaload (x := I 194 (Int32.toNatClampNeg x3)) dc306_8.1.1.2 rfl ((vi_f q c1).2.2.2.2.2.2.2.1) rfl rfl ?_
    refine am_s_aload_n rfl dc306_8.1.2.1 ?_
    refine am_s_getR (r := 195) dc306_8.1.2.2 rfl rfl rfl (hp _ _ _ rfl) ?_
    refine am_s_iload_n rfl dc306_8.2.1.1 ?_
    refine am_x_iaload (x := I 195 (Int32.toNatClampNeg x3)) dc306_8.2.1.2 rfl ((vi_f q c1).2.2.2.2.2.2.2.2.1) rfl rfl ?_
    refine am_s_aload_n rfl dc306_8.2.2.1 ?_
    refine am_s_getR (r := 196) dc306_8.2.2.2 rfl rfl rfl (hp _ _ _ rfl) ?_
    refine am_s_iload_n rfl dc306_9.1.1.1 ?_
    refine am_x_iaload (x := I 196 (Int32.toNatClampNeg x3)) dc306_9.1.1.2 rfl ((vi_f q c1).2.2.2.2.2.2.2.2.2.1) rfl rfl ?_
    exact am_s_virtual true dc306_9.1.2.1 rfl (by decide) rfl rfl rfl ((vi_f q c1).2.2.2.2.2.2.2.2.2.2)
theorem v306_35 {sc : Option (Nat × (Nat → Int32))} {d k n : Nat} {P : am_O → Prop} {I : am_I} {J : am_J} {Pf : am_R} (hp : am_PF Pf) {l1 : Option Value} {l2 : Option Value} {l3 : Option Value} (hl1 : am_k1 l1 = true) (q : (am_go sc d 306 (39, [some (.ref 163), l1, some (.int 0), some (.int 0)], [], (am_SH, I, J, Pf), k, n) P)) : am_go sc d 306 (35, [some (.ref 163), l1, l2, l3], [], (am_SH, I, J, Pf), k, n) P := by
  refine am_s_iconst am_cc0 dc306_2.2.2.1 ?_
  refine am_s_istore_n (ls' := [some (.ref 163), l1, some (.int 0), l3]) rfl (am_set1_k (am_kill_x (j := 1) rfl hl1) rfl) dc306_2.2.2.2 ?_
  refine am_s_iconst am_cc0 dc306_3.1.1.1 ?_
  refine am_s_istore_n (ls' := [some (.ref 163), l1, some (.int 0), some (.int 0)]) rfl rfl dc306_3.1.1.2 ?_
  exact q
theorem v306_116 {sc : Option (Nat × (Nat → Int32))} {d k n : Nat} {P : am_O → Prop} {I : am_I} {J : am_J} {Pf : am_R} (hp : am_PF Pf) {l1 : Option Value} {l2 : Option Value} {x3 : Int32} {s0 : Int32} {s2 : Int32} {s3 : Int32} {s4 : Int32} {s5 : Int32} {s6 : Int32} (q : (am_in x3 200 = true) ∧ (am_mth d 242 [.ref 163, .int s2, .int s3, .int s4, .int s5, .int s6, .int (I 197 (Int32.toNatClampNeg x3))] (am_SH, I, J, Pf) (am_af sc d 306 122 [some (.ref 163), l1, l2, some (.int x3)] [.int (I 197 (Int32.toNatClampNeg x3)), .int s6, .int s5, .int s4, .int s3, .int s2, .ref 163, .int s0] [.int s0] (am_SH, I, J, Pf) k n true P))) : am_go sc d 306 (116, [some (.ref 163), l1, l2, some (.int x3)], [.int s6, .int s5, .int s4, .int s3, .int s2, .ref 163, .int s0], (am_SH, I, J, Pf), k, n) P := by
  refine am_s_aload_n rfl dc306_9.1.2.2 ?_
  refine am_s_getR (r := 197) dc306_9.2.1.1 rfl rfl rfl (hp _ _ _ rfl) ?_
  refine am_s_iload_n rfl dc306_9.2.1.2 ?_
  refine am_x_iaload (x := I 197 (Int32.toNatClampNeg x3)) dc306_9.2.2.1 rfl (q.1) rfl rfl ?_
  exact am_s_virtual true dc306_9.2.2.2 rfl (by decide) rfl rfl rfl (q.2)
theorem v306_125 {sc : Option (Nat × (Nat → Int32))} {d k n : Nat} {P : am_O → Prop} {I : am_I} {J : am_J} {Pf : am_R} (hp : am_PF Pf) {l1 : Option Value} {l2 : Option Value} {x3 : Int32} {s0 : Int32} {s1 : Int32} (hl1 : am_k1 l1 = true) (q : (am_go sc d 306 (39, [some (.ref 163), l1, some (.int (s0 + s1)), some (.int (x3 + 1))], [], (am_SH, I, J, Pf), k, n) P)) : am_go sc d 306 (125, [some (.ref 163), l1, l2, some (.int x3)], [.int s1, .int s0], (am_SH, I, J, Pf), k, n) P := by
  refine am_s_iadd dc306_10.1.1 ?_
  refine am_s_istore_n (ls' := [some (.ref 163), l1, some (.int (s0 + s1)), some (.int x3)]) rfl (am_set1_k (am_kill_x (j := 1) rfl hl1) rfl) dc306_10.1.2.1 ?_
  refine am_s_iinc (ls' := [some (.ref 163), l1, some (.int (s0 + s1)), some (.int (x3 + 1))]) am_cc1 rfl rfl dc306_10.1.2.2 ?_
  refine am_s_goto rfl dc306_10.2.1 ?_
  exact q
-- causeIn (I)I
theorem v307_0 {sc : Option (Nat × (Nat → Int32))} {d k n : Nat} {P : am_O → Prop} {I : am_I} {J : am_J} {Pf : am_R} (hp : am_PF Pf) {x1 : Int32} {l2 : Option Value} {l3 : Option Value} {l4 : Option Value} (q : (am_go sc d 307 (2, [some (.ref 163), some (.int x1), some (.int 0), l3, l4], [], (am_SH, I, J, Pf), k, n) P)) : am_go sc d 307 (0, [some (.ref 163), some (.int x1), l2, l3, l4], [], (am_SH, I, J, Pf), k, n) P := by
  refine am_s_iconst am_cc0 dc307_0.1.1.1 ?_
  refine am_s_istore_n (ls' := [some (.ref 163), some (.int x1), some (.int 0), l3, l4]) rfl rfl dc307_0.1.1.2 ?_
  exact q
theorem v307_2 {sc : Option (Nat × (Nat → Int32))} {d k n : Nat} {P : am_O → Prop} {I : am_I} {J : am_J} {Pf : am_R} (hp : am_PF Pf) {x1 : Int32} {x2 : Int32} {l3 : Option Value} {l4 : Option Value} (q : (am_in (25 * x1) 125 = true) ∧ (if (I 183 (Int32.toNatClampNeg (25 * x1))) ≤ x2 then (P (.inl (some (.int (-1))), (am_SH, I, J, Pf), k, n)) else (if 3 ≤ x1 then (P (.inl (some (.int (-1))), (am_SH, I, J, Pf), k, n)) else (am_go sc (d + 1) 307 (18, [some (.ref 163), some (.int x1), some (.int x2), some (.int 0), l4], [], (am_SH, I, J, Pf), k, n) P)))) : am_go sc (d + 1) 307 (2, [some (.ref 163), some (.int x1), some (.int x2), l3, l4], [], (am_SH, I, J, Pf), k, n) P := by
  refine am_s_iload_n rfl dc307_0.1.2.1 ?_
  refine am_s_aload_n rfl dc307_0.1.2.2 ?_
  refine am_s_iload_n rfl dc307_0.2.1.1 ?_
  refine am_s_virtual true dc307_0.2.1.2 rfl (by decide) rfl rfl rfl (am_mth_of rfl rfl ?_)
  refine am_s_aload_n rfl dc254_0.1.1 ?_
  refine am_s_getR (r := 183) dc254_0.1.2.1 rfl rfl rfl (hp _ _ _ rfl) ?_
  refine am_s_bipush am_cb25 dc254_0.1.2.2 ?_
  refine am_s_iload_n rfl dc254_0.2.1.1 ?_
  refine am_s_imul dc254_0.2.1.2 ?_
  refine am_x_iaload (x := I 183 (Int32.toNatClampNeg (25 * x1))) dc254_0.2.2.1 rfl (q.1) rfl rfl ?_
  refine am_s_ireturn dc254_0.2.2.2 rfl (am_bkI ?_)
  refine am_s_ic_ge dc307_0.2.2.1 rfl (fun c1 => ?_) (fun c1 => ?_)
  · refine am_s_iconst am_ccm1 dc307_7.2.1 ?_
    exact am_s_ireturn dc307_7.2.2 rfl ((vi_t q.2 c1))
  · refine am_s_iload_n rfl dc307_0.2.2.2 ?_
    refine am_s_iconst am_cc3 dc307_1.1.1.1 ?_
    refine am_s_ic_ge dc307_1.1.1.2 rfl (fun c2 => ?_) (fun c2 => ?_)
    · refine am_s_iconst am_ccm1 dc307_7.2.1 ?_
      exact am_s_ireturn dc307_7.2.2 rfl ((vi_t (vi_f q.2 c1) c2))
    · refine am_s_iconst am_cc0 dc307_1.1.2.1 ?_
      refine am_s_istore_n (ls' := [some (.ref 163), some (.int x1), some (.int x2), some (.int 0), l4]) rfl rfl dc307_1.1.2.2 ?_
      exact (vi_f (vi_f q.2 c1) c2)
theorem v307_18 {sc : Option (Nat × (Nat → Int32))} {d k n : Nat} {P : am_O → Prop} {I : am_I} {J : am_J} {Pf : am_R} (hp : am_PF Pf) {x1 : Int32} {x2 : Int32} {x3 : Int32} {l4 : Option Value} (q : (if (I 167 2) ≤ x3 then (am_go sc d 307 (2, [some (.ref 163), some (.int x1), some (.int (x2 + 1)), some (.int x3), l4], [], (am_SH, I, J, Pf), k, n) P) else (am_in ((972 + (5 * x3)) + 1) 1040 = true) ∧ (am_mth d 259 [.ref 163, .int x1, .int x3, .int x2] (am_SH, I, J, Pf) (am_af sc d 307 48 [some (.ref 163), some (.int x1), some (.int x2), some (.int x3), some (.int (I 167 (Int32.toNatClampNeg ((972 + (5 * x3)) + 1))))] [.int x2, .int x3, .int x1, .ref 163] [] (am_SH, I, J, Pf) k n true P)))) : am_go sc d 307 (18, [some (.ref 163), some (.int x1), some (.int x2), some (.int x3), l4], [], (am_SH, I, J, Pf), k, n) P := by
  refine am_s_iload_n rfl dc307_1.2.1.1 ?_
  refine am_s_aload_n rfl dc307_1.2.1.2 ?_
  refine am_s_getR (r := 167) dc307_1.2.2.1 rfl rfl rfl (hp _ _ _ rfl) ?_
  refine am_s_iconst am_cc2 dc307_1.2.2.2 ?_
  refine am_x_iaload (x := I 167 2) dc307_2.1.1.1 rfl (by decide +kernel) am_cN2 rfl ?_
  refine am_s_ic_ge dc307_2.1.1.2 rfl (fun c1 => ?_) (fun c1 => ?_)
  · refine am_s_iinc (ls' := [some (.ref 163), some (.int x1), some (.int (x2 + 1)), some (.int x3), l4]) am_cc1 rfl rfl dc307_7.1.1 ?_
    refine am_s_goto rfl dc307_7.1.2 ?_
    exact (vi_t q c1)
  · refine am_s_aload_n rfl dc307_2.1.2.1 ?_
    refine am_s_getR (r := 167) dc307_2.1.2.2 rfl rfl rfl (hp _ _ _ rfl) ?_
    refine am_s_sipush am_cs972 dc307_2.2.1.1 ?_
    refine am_s_iconst am_cc5 dc307_2.2.1.2 ?_
    refine am_s_iload_n rfl dc307_2.2.2.1 ?_
    refine am_s_imul dc307_2.2.2.2 ?_
    refine am_s_iadd dc307_3.1.1.1 ?_
    refine am_s_iconst am_cc1 dc307_3.1.1.2 ?_
    refine am_s_iadd dc307_3.1.2.1 ?_
    refine am_x_iaload (x := I 167 (Int32.toNatClampNeg ((972 + (5 * x3)) + 1))) dc307_3.1.2.2 rfl ((vi_f q c1).1) rfl rfl ?_
    refine am_s_istore (ls' := [some (.ref 163), some (.int x1), some (.int x2), some (.int x3), some (.int (I 167 (Int32.toNatClampNeg ((972 + (5 * x3)) + 1))))]) rfl rfl dc307_3.2.1.1 ?_
    refine am_s_aload_n rfl dc307_3.2.1.2 ?_
    refine am_s_iload_n rfl dc307_3.2.2.1 ?_
    refine am_s_iload_n rfl dc307_3.2.2.2 ?_
    refine am_s_iload_n rfl dc307_4.1.1.1 ?_
    exact am_s_virtual true dc307_4.1.1.2 rfl (by decide) rfl rfl rfl ((vi_f q c1).2)
theorem v307_51 {sc : Option (Nat × (Nat → Int32))} {d k n : Nat} {P : am_O → Prop} {I : am_I} {J : am_J} {Pf : am_R} (hp : am_PF Pf) {x1 : Int32} {x2 : Int32} {x3 : Int32} {x4 : Int32} {s0 : Int32} (q : (if s0 = (-1) then (am_go sc d 307 (18, [some (.ref 163), some (.int x1), some (.int x2), some (.int (x3 + 1)), some (.int x4)], [], (am_SH, I, J, Pf), k, n) P) else (am_mth d 261 [.ref 163, .int (x1 + 1)] (am_SH, I, J, Pf) (am_af sc d 307 59 [some (.ref 163), some (.int x1), some (.int x2), some (.int x3), some (.int x4)] [.int (x1 + 1), .ref 163] [] (am_SH, I, J, Pf) k n true P)))) : am_go sc d 307 (51, [some (.ref 163), some (.int x1), some (.int x2), some (.int x3), some (.int x4)], [.int s0], (am_SH, I, J, Pf), k, n) P := by
  refine am_s_iconst am_ccm1 dc307_4.1.2.1 ?_
  refine am_s_ic_eq dc307_4.1.2.2 rfl (fun c1 => ?_) (fun c1 => ?_)
  · refine am_s_iinc (ls' := [some (.ref 163), some (.int x1), some (.int x2), some (.int (x3 + 1)), some (.int x4)]) am_cc1 rfl rfl dc307_6.2.2.1 ?_
    refine am_s_goto rfl dc307_6.2.2.2 ?_
    exact (vi_t q c1)
  · refine am_s_aload_n rfl dc307_4.2.1.1 ?_
    refine am_s_iload_n rfl dc307_4.2.1.2 ?_
    refine am_s_iconst am_cc1 dc307_4.2.2.1 ?_
    refine am_s_iadd dc307_4.2.2.2 ?_
    exact am_s_virtual true dc307_5.1.1.1 rfl (by decide) rfl rfl rfl ((vi_f q c1))
theorem v307_62 {sc : Option (Nat × (Nat → Int32))} {d k n : Nat} {P : am_O → Prop} {I : am_I} {J : am_J} {Pf : am_R} (hp : am_PF Pf) {x1 : Int32} {x2 : Int32} {x3 : Int32} {x4 : Int32} {s0 : Int32} (q : (if ((s0 >>> (x4 &&& 31)) &&& 1) = 0 then (am_mth d 259 [.ref 163, .int x1, .int x3, .int x2] (am_SH, I, J, Pf) (am_af sc d 307 74 [some (.ref 163), some (.int x1), some (.int x2), some (.int x3), some (.int x4)] [.int x2, .int x3, .int x1, .ref 163] [] (am_SH, I, J, Pf) k n true P)) else (am_go sc d 307 (18, [some (.ref 163), some (.int x1), some (.int x2), some (.int (x3 + 1)), some (.int x4)], [], (am_SH, I, J, Pf), k, n) P))) : am_go sc d 307 (62, [some (.ref 163), some (.int x1), some (.int x2), some (.int x3), some (.int x4)], [.int s0], (am_SH, I, J, Pf), k, n) P := by
  refine am_s_iload rfl dc307_5.1.1.2 ?_
  refine am_s_ishr dc307_5.1.2.1 ?_
  refine am_s_iconst am_cc1 dc307_5.1.2.2 ?_
  refine am_s_iand dc307_5.2.1.1 ?_
  refine am_s_if_ne dc307_5.2.1.2 rfl (fun c1 => ?_) (fun c1 => ?_)
  · refine am_s_iinc (ls' := [some (.ref 163), some (.int x1), some (.int x2), some (.int (x3 + 1)), some (.int x4)]) am_cc1 rfl rfl dc307_6.2.2.1 ?_
    refine am_s_goto rfl dc307_6.2.2.2 ?_
    exact (vi_f q c1)
  · refine am_s_aload_n rfl dc307_5.2.2.1 ?_
    refine am_s_iload_n rfl dc307_5.2.2.2 ?_
    refine am_s_iload_n rfl dc307_6.1.1.1 ?_
    refine am_s_iload_n rfl dc307_6.1.1.2 ?_
    exact am_s_virtual true dc307_6.1.2.1 rfl (by decide) rfl rfl rfl ((vi_t q (Decidable.not_not.mp c1)))
theorem v307_77 {sc : Option (Nat × (Nat → Int32))} {d k n : Nat} {P : am_O → Prop} {I : am_I} {J : am_J} {Pf : am_R} (hp : am_PF Pf) {l0 : Option Value} {l1 : Option Value} {l2 : Option Value} {l3 : Option Value} {x4 : Int32} {s0 : Int32} (q : (P (.inl (some (.int x4)), (am_SH, I, J, Pf), k, n))) : am_go sc d 307 (77, [l0, l1, l2, l3, some (.int x4)], [.int s0], (am_SH, I, J, Pf), k, n) P := by
  refine am_s_pop rfl dc307_6.1.2.2 ?_
  refine am_s_iload rfl dc307_6.2.1.1 ?_
  exact am_s_ireturn dc307_6.2.1.2 rfl (q)
-- laysWrongs (I)I
theorem v308_0 {sc : Option (Nat × (Nat → Int32))} {d k n : Nat} {P : am_O → Prop} {I : am_I} {J : am_J} {Pf : am_R} (hp : am_PF Pf) {x1 : Int32} {l2 : Option Value} {l3 : Option Value} {l4 : Option Value} (q : (am_mth d 271 [.ref 163] (am_SH, I, J, Pf) (am_af sc d 308 1 [some (.ref 163), some (.int x1), l2, l3, l4] [.ref 163] [] (am_SH, I, J, Pf) k n true P))) : am_go sc d 308 (0, [some (.ref 163), some (.int x1), l2, l3, l4], [], (am_SH, I, J, Pf), k, n) P := by
  refine am_s_aload_n rfl dc308_0.1.1.1 ?_
  exact am_s_virtual true dc308_0.1.1.2 rfl (by decide) rfl rfl rfl (q)
theorem v308_25 {sc : Option (Nat × (Nat → Int32))} {d k n : Nat} {P : am_O → Prop} {I : am_I} {J : am_J} {Pf : am_R} (hp : am_PF Pf) {l1 : Option Value} {x2 : Int32} {x3 : Int32} {l4 : Option Value} (q : (if x3 = (-1) then (P (.inl (some (.int x2)), (am_SH, I, J, Pf), k, n)) else (am_in (25 * x2) 125 = true) ∧ (am_go sc (d + 1) 308 (37, [some (.ref 163), l1, some (.int x2), some (.int x3), some (.int (I 183 (Int32.toNatClampNeg (25 * x2))))], [], (am_SH, I, J, Pf), k, n) P))) : am_go sc (d + 1) 308 (25, [some (.ref 163), l1, some (.int x2), some (.int x3), l4], [], (am_SH, I, J, Pf), k, n) P := by
  refine am_s_iload_n rfl dc308_2.1.1.2 ?_
  refine am_s_iconst am_ccm1 dc308_2.1.2.1 ?_
  refine am_s_ic_eq dc308_2.1.2.2 rfl (fun c1 => ?_) (fun c1 => ?_)
  · refine am_s_iload_n rfl dc308_9.2.1 ?_
    exact am_s_ireturn dc308_9.2.2 rfl ((vi_t q c1))
  · refine am_s_aload_n rfl dc308_2.2.1.1 ?_
    refine am_s_iload_n rfl dc308_2.2.1.2 ?_
    refine am_s_virtual true dc308_2.2.2.1 rfl (by decide) rfl rfl rfl (am_mth_of rfl rfl ?_)
    refine am_s_aload_n rfl dc254_0.1.1 ?_
    refine am_s_getR (r := 183) dc254_0.1.2.1 rfl rfl rfl (hp _ _ _ rfl) ?_
    refine am_s_bipush am_cb25 dc254_0.1.2.2 ?_
    refine am_s_iload_n rfl dc254_0.2.1.1 ?_
    refine am_s_imul dc254_0.2.1.2 ?_
    refine am_x_iaload (x := I 183 (Int32.toNatClampNeg (25 * x2))) dc254_0.2.2.1 rfl ((vi_f q c1).1) rfl rfl ?_
    refine am_s_ireturn dc254_0.2.2.2 rfl (am_bkI ?_)
    refine am_s_istore (ls' := [some (.ref 163), l1, some (.int x2), some (.int x3), some (.int (I 183 (Int32.toNatClampNeg (25 * x2))))]) rfl rfl dc308_2.2.2.2 ?_
    exact (vi_f q c1).2
theorem v308_37 {sc : Option (Nat × (Nat → Int32))} {d k n : Nat} {P : am_O → Prop} {I : am_I} {J : am_J} {Pf : am_R} (hp : am_PF Pf) {l1 : Option Value} {x2 : Int32} {x3 : Int32} {x4 : Int32} (q : (if x4 ≤ 0 then (am_go sc (d + 2) 308 (60, [some (.ref 163), l1, some (.int x2), some (.int x3), some (.int x4)], [], (am_SH, I, J, Pf), k, n) P) else (am_in (((((x2 * 8) + x3) * 625) + ((0 : Int32) * 25)) + x4) 20000 = true) ∧ (if (I 184 (Int32.toNatClampNeg (((((x2 * 8) + x3) * 625) + ((0 : Int32) * 25)) + x4))) ≤ 0 then (am_go sc (d + 2) 308 (37, [some (.ref 163), l1, some (.int x2), some (.int x3), some (.int (x4 + (-1)))], [], (am_SH, I, J, Pf), k, n) P) else (am_go sc (d + 2) 308 (60, [some (.ref 163), l1, some (.int x2), some (.int x3), some (.int x4)], [], (am_SH, I, J, Pf), k, n) P)))) : am_go sc (d + 2) 308 (37, [some (.ref 163), l1, some (.int x2), some (.int x3), some (.int x4)], [], (am_SH, I, J, Pf), k, n) P := by
  refine am_s_iload rfl dc308_3.1.1.1 ?_
  refine am_s_if_le dc308_3.1.1.2 rfl (fun c1 => ?_) (fun c1 => ?_)
  · exact (vi_t q c1)
  · refine am_s_aload_n rfl dc308_3.1.2.1 ?_
    refine am_s_iload_n rfl dc308_3.1.2.2 ?_
    refine am_s_iload_n rfl dc308_3.2.1.1 ?_
    refine am_s_iconst am_cc0 dc308_3.2.1.2 ?_
    refine am_s_iload rfl dc308_3.2.2.1 ?_
    refine am_s_virtual true dc308_3.2.2.2 rfl (by decide) rfl rfl rfl (am_mth_of rfl rfl ?_)
    refine am_s_aload_n rfl dc257_0.1.1.1 ?_
    refine am_s_getR (r := 184) dc257_0.1.1.2 rfl rfl rfl (hp _ _ _ rfl) ?_
    refine am_s_iload_n rfl dc257_0.1.2.1 ?_
    refine am_s_iload_n rfl dc257_0.1.2.2 ?_
    refine am_s_iload_n rfl dc257_0.2.1.1 ?_
    refine am_s_iload rfl dc257_0.2.1.2 ?_
    refine am_s_static dc257_0.2.2.1 rfl rfl rfl (am_mth_of rfl rfl ?_)
    refine am_s_iload_n rfl dc256_0.1.1.1 ?_
    refine am_s_bipush am_cb8 dc256_0.1.1.2 ?_
    refine am_s_imul dc256_0.1.2.1 ?_
    refine am_s_iload_n rfl dc256_0.1.2.2 ?_
    refine am_s_iadd dc256_0.2.1.1 ?_
    refine am_s_sipush am_cs625 dc256_0.2.1.2 ?_
    refine am_s_imul dc256_0.2.2.1 ?_
    refine am_s_iload_n rfl dc256_0.2.2.2 ?_
    refine am_s_bipush am_cb25 dc256_1.1.1 ?_
    refine am_s_imul dc256_1.1.2.1 ?_
    refine am_s_iadd dc256_1.1.2.2 ?_
    refine am_s_iload_n rfl dc256_1.2.1 ?_
    refine am_s_iadd dc256_1.2.2.1 ?_
    refine am_s_ireturn dc256_1.2.2.2 rfl (am_bkI ?_)
    refine am_x_iaload (x := I 184 (Int32.toNatClampNeg (((((x2 * 8) + x3) * 625) + ((0 : Int32) * 25)) + x4))) dc257_0.2.2.2 rfl ((vi_f q c1).1) rfl rfl ?_
    refine am_s_if_le dc257_1.1.1 rfl (fun c2 => ?_) (fun c2 => ?_)
    · refine am_s_iconst am_cc0 dc257_1.2.2.1 ?_
      refine am_s_zreturn dc257_1.2.2.2 rfl (by decide) (am_bkI ?_)
      refine am_s_if_ne dc308_4.1.1.1 rfl (fun z => absurd z (by decide)) (fun _ => ?_)
      refine am_s_iinc (ls' := [some (.ref 163), l1, some (.int x2), some (.int x3), some (.int (x4 + (-1)))]) am_ccm1 rfl rfl dc308_4.1.1.2 ?_
      refine am_s_goto rfl dc308_4.1.2.1 ?_
      exact (vi_t (vi_f q c1).2 c2)
    · refine am_s_iconst am_cc1 dc257_1.1.2 ?_
      refine am_s_goto rfl dc257_1.2.1 ?_
      refine am_s_zreturn dc257_1.2.2.2 rfl (by decide) (am_bkI ?_)
      refine am_s_if_ne dc308_4.1.1.1 rfl (fun _ => ?_) (fun z => absurd z (by decide))
      exact (vi_f (vi_f q c1).2 c2)
theorem v308_60 {sc : Option (Nat × (Nat → Int32))} {d k n : Nat} {P : am_O → Prop} {I : am_I} {J : am_J} {Pf : am_R} (hp : am_PF Pf) {l1 : Option Value} {x2 : Int32} {x3 : Int32} {x4 : Int32} (q : (am_in (3 * x2) 15 = true) ∧ (am_in ((3 * x2) + 1) 15 = true) ∧ (am_in (25 * x2) 125 = true) ∧ (am_in ((3 * x2) + 2) 15 = true) ∧ (am_mth (d + 1) 307 [.ref 163, .int x2] (am_SH, am_u (am_u (am_u I 199 (Int32.toNatClampNeg (3 * x2)) x4) 199 (Int32.toNatClampNeg ((3 * x2) + 1)) x3) 199 (Int32.toNatClampNeg ((3 * x2) + 2)) (I 183 (Int32.toNatClampNeg (25 * x2))), J, Pf) (am_af sc (d + 1) 308 98 [some (.ref 163), l1, some (.int x2), some (.int x3), some (.int x4)] [.int x2, .ref 163] [] (am_SH, am_u (am_u (am_u I 199 (Int32.toNatClampNeg (3 * x2)) x4) 199 (Int32.toNatClampNeg ((3 * x2) + 1)) x3) 199 (Int32.toNatClampNeg ((3 * x2) + 2)) (I 183 (Int32.toNatClampNeg (25 * x2))), J, Pf) k n true P))) : am_go sc (d + 1) 308 (60, [some (.ref 163), l1, some (.int x2), some (.int x3), some (.int x4)], [], (am_SH, I, J, Pf), k, n) P := by
  refine am_s_aload_n rfl dc308_4.1.2.2 ?_
  refine am_s_getR (r := 199) dc308_4.2.1.1 rfl rfl rfl (hp _ _ _ rfl) ?_
  refine am_s_iconst am_cc3 dc308_4.2.1.2 ?_
  refine am_s_iload_n rfl dc308_4.2.2.1 ?_
  refine am_s_imul dc308_4.2.2.2 ?_
  refine am_s_iload rfl dc308_5.1.1.1 ?_
  refine am_s_iastore dc308_5.1.1.2 rfl (q.1) rfl ?_
  refine am_s_aload_n rfl dc308_5.1.2.1 ?_
  refine am_s_getR (r := 199) dc308_5.1.2.2 rfl rfl rfl (hp _ _ _ rfl) ?_
  refine am_s_iconst am_cc3 dc308_5.2.1.1 ?_
  refine am_s_iload_n rfl dc308_5.2.1.2 ?_
  refine am_s_imul dc308_5.2.2.1 ?_
  refine am_s_iconst am_cc1 dc308_5.2.2.2 ?_
  refine am_s_iadd dc308_6.1.1.1 ?_
  refine am_s_iload_n rfl dc308_6.1.1.2 ?_
  refine am_s_iastore dc308_6.1.2.1 rfl (q.2.1) rfl ?_
  refine am_s_aload_n rfl dc308_6.1.2.2 ?_
  refine am_s_getR (r := 199) dc308_6.2.1.1 rfl rfl rfl (hp _ _ _ rfl) ?_
  refine am_s_iconst am_cc3 dc308_6.2.1.2 ?_
  refine am_s_iload_n rfl dc308_6.2.2.1 ?_
  refine am_s_imul dc308_6.2.2.2 ?_
  refine am_s_iconst am_cc2 dc308_7.1.1.1 ?_
  refine am_s_iadd dc308_7.1.1.2 ?_
  refine am_s_aload_n rfl dc308_7.1.2.1 ?_
  refine am_s_iload_n rfl dc308_7.1.2.2 ?_
  refine am_s_virtual true dc308_7.2.1.1 rfl (by decide) rfl rfl rfl (am_mth_of rfl rfl ?_)
  refine am_s_aload_n rfl dc254_0.1.1 ?_
  refine am_s_getR (r := 183) dc254_0.1.2.1 rfl rfl rfl (hp _ _ _ rfl) ?_
  refine am_s_bipush am_cb25 dc254_0.1.2.2 ?_
  refine am_s_iload_n rfl dc254_0.2.1.1 ?_
  refine am_s_imul dc254_0.2.1.2 ?_
  refine am_x_iaload (x := I 183 (Int32.toNatClampNeg (25 * x2))) dc254_0.2.2.1 rfl (q.2.2.1) rfl rfl ?_
  refine am_s_ireturn dc254_0.2.2.2 rfl (am_bkI ?_)
  refine am_s_iastore dc308_7.2.1.2 rfl (q.2.2.2.1) rfl ?_
  refine am_s_aload_n rfl dc308_7.2.2.1 ?_
  refine am_s_iload_n rfl dc308_7.2.2.2 ?_
  exact am_s_virtual true dc308_8.1.1.1 rfl (by decide) rfl rfl rfl (q.2.2.2.2)
theorem v308_4 {sc : Option (Nat × (Nat → Int32))} {d k n : Nat} {P : am_O → Prop} {I : am_I} {J : am_J} {Pf : am_R} (hp : am_PF Pf) {x1 : Int32} {l2 : Option Value} {l3 : Option Value} {l4 : Option Value} (q : (am_in ((25 : Int32) * 0) 125 = true) ∧ (am_in ((((((0 : Int32) * 8) + x1) * 625) + ((0 : Int32) * 25)) + (I 183 (Int32.toNatClampNeg ((25 : Int32) * 0)))) 20000 = true) ∧ (if (I 184 (Int32.toNatClampNeg ((((((0 : Int32) * 8) + x1) * 625) + ((0 : Int32) * 25)) + (I 183 (Int32.toNatClampNeg ((25 : Int32) * 0)))))) ≤ 0 then (am_go sc (d + 2) 308 (25, [some (.ref 163), some (.int x1), some (.int 0), some (.int x1), l4], [], (am_SH, I, J, Pf), k, n) P) else (P (.inl (some (.int 0)), (am_SH, I, J, Pf), k, n)))) : am_go sc (d + 2) 308 (4, [some (.ref 163), some (.int x1), l2, l3, l4], [], (am_SH, I, J, Pf), k, n) P := by
  refine am_s_iconst am_cc0 dc308_0.1.2.1 ?_
  refine am_s_istore_n (ls' := [some (.ref 163), some (.int x1), some (.int 0), l3, l4]) rfl rfl dc308_0.1.2.2 ?_
  refine am_s_iload_n rfl dc308_0.2.1.1 ?_
  refine am_s_istore_n (ls' := [some (.ref 163), some (.int x1), some (.int 0), some (.int x1), l4]) rfl rfl dc308_0.2.1.2 ?_
  refine am_s_aload_n rfl dc308_0.2.2.1 ?_
  refine am_s_iconst am_cc0 dc308_0.2.2.2 ?_
  refine am_s_iload_n rfl dc308_1.1.1.1 ?_
  refine am_s_iconst am_cc0 dc308_1.1.1.2 ?_
  refine am_s_aload_n rfl dc308_1.1.2.1 ?_
  refine am_s_iconst am_cc0 dc308_1.1.2.2 ?_
  refine am_s_virtual true dc308_1.2.1.1 rfl (by decide) rfl rfl rfl (am_mth_of rfl rfl ?_)
  refine am_s_aload_n rfl dc254_0.1.1 ?_
  refine am_s_getR (r := 183) dc254_0.1.2.1 rfl rfl rfl (hp _ _ _ rfl) ?_
  refine am_s_bipush am_cb25 dc254_0.1.2.2 ?_
  refine am_s_iload_n rfl dc254_0.2.1.1 ?_
  refine am_s_imul dc254_0.2.1.2 ?_
  refine am_x_iaload (x := I 183 (Int32.toNatClampNeg ((25 : Int32) * 0))) dc254_0.2.2.1 rfl (q.1) rfl rfl ?_
  refine am_s_ireturn dc254_0.2.2.2 rfl (am_bkI ?_)
  refine am_s_virtual true dc308_1.2.1.2 rfl (by decide) rfl rfl rfl (am_mth_of rfl rfl ?_)
  refine am_s_aload_n rfl dc257_0.1.1.1 ?_
  refine am_s_getR (r := 184) dc257_0.1.1.2 rfl rfl rfl (hp _ _ _ rfl) ?_
  refine am_s_iload_n rfl dc257_0.1.2.1 ?_
  refine am_s_iload_n rfl dc257_0.1.2.2 ?_
  refine am_s_iload_n rfl dc257_0.2.1.1 ?_
  refine am_s_iload rfl dc257_0.2.1.2 ?_
  refine am_s_static dc257_0.2.2.1 rfl rfl rfl (am_mth_of rfl rfl ?_)
  refine am_s_iload_n rfl dc256_0.1.1.1 ?_
  refine am_s_bipush am_cb8 dc256_0.1.1.2 ?_
  refine am_s_imul dc256_0.1.2.1 ?_
  refine am_s_iload_n rfl dc256_0.1.2.2 ?_
  refine am_s_iadd dc256_0.2.1.1 ?_
  refine am_s_sipush am_cs625 dc256_0.2.1.2 ?_
  refine am_s_imul dc256_0.2.2.1 ?_
  refine am_s_iload_n rfl dc256_0.2.2.2 ?_
  refine am_s_bipush am_cb25 dc256_1.1.1 ?_
  refine am_s_imul dc256_1.1.2.1 ?_
  refine am_s_iadd dc256_1.1.2.2 ?_
  refine am_s_iload_n rfl dc256_1.2.1 ?_
  refine am_s_iadd dc256_1.2.2.1 ?_
  refine am_s_ireturn dc256_1.2.2.2 rfl (am_bkI ?_)
  refine am_x_iaload (x := I 184 (Int32.toNatClampNeg ((((((0 : Int32) * 8) + x1) * 625) + ((0 : Int32) * 25)) + (I 183 (Int32.toNatClampNeg ((25 : Int32) * 0)))))) dc257_0.2.2.2 rfl (q.2.1) rfl rfl ?_
  refine am_s_if_le dc257_1.1.1 rfl (fun c1 => ?_) (fun c1 => ?_)
  · refine am_s_iconst am_cc0 dc257_1.2.2.1 ?_
    refine am_s_zreturn dc257_1.2.2.2 rfl (by decide) (am_bkI ?_)
    refine am_s_if_eq dc308_1.2.2.1 rfl (fun _ => ?_) (fun z => absurd z (by decide))
    exact (vi_t q.2.2 c1)
  · refine am_s_iconst am_cc1 dc257_1.1.2 ?_
    refine am_s_goto rfl dc257_1.2.1 ?_
    refine am_s_zreturn dc257_1.2.2.2 rfl (by decide) (am_bkI ?_)
    refine am_s_if_eq dc308_1.2.2.1 rfl (fun z => absurd z (by decide)) (fun _ => ?_)
    refine am_s_iload_n rfl dc308_1.2.2.2 ?_
    exact am_s_ireturn dc308_2.1.1.1 rfl ((vi_f q.2.2 c1))
theorem v308_101 {sc : Option (Nat × (Nat → Int32))} {d k n : Nat} {P : am_O → Prop} {I : am_I} {J : am_J} {Pf : am_R} (hp : am_PF Pf) {l1 : Option Value} {x2 : Int32} {l3 : Option Value} {l4 : Option Value} {s0 : Int32} (hl1 : am_k1 l1 = true) (q : (if s0 = (-1) then (am_go sc d 308 (25, [some (.ref 163), l1, some (.int (x2 + 1)), some (.int s0), l4], [], (am_SH, I, J, Pf), k, n) P) else (am_mth d 263 [.ref 163, .int (x2 + 1)] (am_SH, I, J, Pf) (am_af sc d 308 112 [some (.ref 163), l1, some (.int (x2 + 1)), some (.int s0), l4] [.int (x2 + 1), .ref 163] [] (am_SH, I, J, Pf) k n true P)))) : am_go sc d 308 (101, [some (.ref 163), l1, some (.int x2), l3, l4], [.int s0], (am_SH, I, J, Pf), k, n) P := by
  refine am_s_istore_n (ls' := [some (.ref 163), l1, some (.int x2), some (.int s0), l4]) rfl rfl dc308_8.1.1.2 ?_
  refine am_s_iinc (ls' := [some (.ref 163), l1, some (.int (x2 + 1)), some (.int s0), l4]) am_cc1 rfl (am_set1_k (am_kill_x (j := 1) rfl hl1) rfl) dc308_8.1.2.1 ?_
  refine am_s_iload_n rfl dc308_8.1.2.2 ?_
  refine am_s_iconst am_ccm1 dc308_8.2.1.1 ?_
  refine am_s_ic_eq dc308_8.2.1.2 rfl (fun c1 => ?_) (fun c1 => ?_)
  · refine am_s_goto rfl dc308_9.1.2 ?_
    exact (vi_t q c1)
  · refine am_s_aload_n rfl dc308_8.2.2.1 ?_
    refine am_s_iload_n rfl dc308_8.2.2.2 ?_
    exact am_s_virtual true dc308_9.1.1 rfl (by decide) rfl rfl rfl ((vi_f q c1))
theorem v308_115 {sc : Option (Nat × (Nat → Int32))} {d k n : Nat} {P : am_O → Prop} {I : am_I} {J : am_J} {Pf : am_R} (hp : am_PF Pf) {l1 : Option Value} {x2 : Int32} {x3 : Int32} {l4 : Option Value} (q : (am_go sc d 308 (25, [some (.ref 163), l1, some (.int x2), some (.int x3), l4], [], (am_SH, I, J, Pf), k, n) P)) : am_go sc d 308 (115, [some (.ref 163), l1, some (.int x2), some (.int x3), l4], [], (am_SH, I, J, Pf), k, n) P := by
  refine am_s_goto rfl dc308_9.1.2 ?_
  exact q
-- wrong (III)I
theorem v309_0 {sc : Option (Nat × (Nat → Int32))} {d k n : Nat} {P : am_O → Prop} {I : am_I} {J : am_J} {Pf : am_R} (hp : am_PF Pf) {x1 : Int32} {x2 : Int32} {x3 : Int32} (q : (if x1 < 0 then (P (.inl (some (.int 0)), (am_SH, am_u (am_u (am_u I 163 0 0) 163 0 1) 164 1 ((I 164 1) + 1), J, Pf), k, n)) else (if 7 < x1 then (P (.inl (some (.int 0)), (am_SH, am_u (am_u (am_u I 163 0 0) 163 0 1) 164 1 ((I 164 1) + 1), J, Pf), k, n)) else (if x2 < 0 then (P (.inl (some (.int 0)), (am_SH, am_u (am_u (am_u I 163 0 0) 163 0 1) 164 1 ((I 164 1) + 1), J, Pf), k, n)) else (if x3 < 0 then (P (.inl (some (.int 0)), (am_SH, am_u (am_u (am_u I 163 0 0) 163 0 1) 164 1 ((I 164 1) + 1), J, Pf), k, n)) else (if 2 < x3 then (P (.inl (some (.int 0)), (am_SH, am_u (am_u (am_u I 163 0 0) 163 0 1) 164 1 ((I 164 1) + 1), J, Pf), k, n)) else (am_mth (d + 1) 308 [.ref 163, .int x1] (am_SH, am_u I 163 0 0, J, Pf) (am_af sc (d + 1) 309 47 [some (.ref 163), some (.int x1), some (.int x2), some (.int x3)] [.int x1, .ref 163, .int x2] [.int x2] (am_SH, am_u I 163 0 0, J, Pf) k n true P)))))))) : am_go sc (d + 1) 309 (0, [some (.ref 163), some (.int x1), some (.int x2), some (.int x3)], [], (am_SH, I, J, Pf), k, n) P := by
  refine am_s_aload_n rfl dc309_0.1.1.1 ?_
  refine am_s_iconst am_cc0 dc309_0.1.1.2 ?_
  refine am_s_putI dc309_0.1.2.1 rfl rfl rfl rfl ?_
  refine am_s_aload_n rfl dc309_0.1.2.2 ?_
  refine am_s_iload_n rfl dc309_0.2.1.1 ?_
  refine am_s_iconst am_cc0 dc309_0.2.1.2 ?_
  refine am_s_bipush am_cb7 dc309_0.2.2.1 ?_
  refine am_s_static dc309_0.2.2.2 rfl rfl rfl (am_mth_of rfl rfl ?_)
  refine am_s_iload_n rfl dc190_0.1.1.1 ?_
  refine am_s_iload_n rfl dc190_0.1.1.2 ?_
  refine am_s_ic_lt dc190_0.1.2.1 rfl (fun c1 => ?_) (fun c1 => ?_)
  · refine am_s_iconst am_cc0 dc190_1.1 ?_
    refine am_s_zreturn dc190_1.2 rfl (by decide) (am_bkI ?_)
    refine am_s_if_eq dc309_1.1.1.1 rfl (fun _ => ?_) (fun z => absurd z (by decide))
    refine am_s_iconst am_cc0 dc309_2.1.2.1 ?_
    refine am_s_iconst am_cc1 dc309_2.1.2.2 ?_
    refine am_s_iconst am_cc1 dc309_2.2.1.1 ?_
    refine am_s_virtual true dc309_2.2.1.2 rfl (by decide) rfl rfl rfl (am_mth_of rfl rfl ?_)
    refine am_s_iload_n rfl dc189_0.1.1.1 ?_
    refine am_s_if_ne dc189_0.1.1.2 rfl (fun z => absurd z (by decide)) (fun _ => ?_)
    refine am_s_aload_n rfl dc189_0.1.2.1 ?_
    refine am_x_getI (x := 0) dc189_0.1.2.2 rfl rfl (Or.inl rfl) rfl ?_
    refine am_s_if_ne dc189_0.2.1.1 rfl (fun z => absurd z (by decide)) (fun _ => ?_)
    refine am_s_aload_n rfl dc189_0.2.1.2 ?_
    refine am_s_iload_n rfl dc189_0.2.2.1 ?_
    refine am_s_putI dc189_0.2.2.2 rfl rfl rfl rfl ?_
    refine am_s_aload_n rfl dc189_1.1.1.1 ?_
    refine am_s_getR (r := 164) dc189_1.1.1.2 rfl rfl rfl (hp _ _ _ rfl) ?_
    refine am_s_iload_n rfl dc189_1.1.2.1 ?_
    refine am_s_dup2 rfl rfl dc189_1.1.2.2 ?_
    refine am_x_iaload (x := I 164 1) dc189_1.2.1.1 rfl (by decide +kernel) am_cN1 rfl ?_
    refine am_s_iconst am_cc1 dc189_1.2.1.2 ?_
    refine am_s_iadd dc189_1.2.2.1 ?_
    refine am_s_iastore dc189_1.2.2.2 rfl (by decide +kernel) am_cN1 ?_
    refine am_s_aload_n rfl dc189_2.1.1 ?_
    refine am_x_getI (x := 1) dc189_2.1.2.1 rfl rfl (Or.inl rfl) rfl ?_
    refine am_s_if_ne dc189_2.1.2.2 rfl (fun _ => ?_) (fun z => absurd z (by decide))
    refine am_s_iconst am_cc0 dc189_2.2.2.1 ?_
    refine am_s_zreturn dc189_2.2.2.2 rfl (by decide) (am_bkI ?_)
    refine am_s_if_ne dc309_2.2.2.1 rfl (fun z => absurd z (by decide)) (fun _ => ?_)
    refine am_s_iconst am_cc0 dc309_2.2.2.2 ?_
    exact am_s_ireturn dc309_3.1.1.1 rfl ((vi_t q c1))
  · refine am_s_iload_n rfl dc190_0.1.2.2 ?_
    refine am_s_iload_n rfl dc190_0.2.1.1 ?_
    refine am_s_ic_gt dc190_0.2.1.2 rfl (fun c2 => ?_) (fun c2 => ?_)
    · refine am_s_iconst am_cc0 dc190_1.1 ?_
      refine am_s_zreturn dc190_1.2 rfl (by decide) (am_bkI ?_)
      refine am_s_if_eq dc309_1.1.1.1 rfl (fun _ => ?_) (fun z => absurd z (by decide))
      refine am_s_iconst am_cc0 dc309_2.1.2.1 ?_
      refine am_s_iconst am_cc1 dc309_2.1.2.2 ?_
      refine am_s_iconst am_cc1 dc309_2.2.1.1 ?_
      refine am_s_virtual true dc309_2.2.1.2 rfl (by decide) rfl rfl rfl (am_mth_of rfl rfl ?_)
      refine am_s_iload_n rfl dc189_0.1.1.1 ?_
      refine am_s_if_ne dc189_0.1.1.2 rfl (fun z => absurd z (by decide)) (fun _ => ?_)
      refine am_s_aload_n rfl dc189_0.1.2.1 ?_
      refine am_x_getI (x := 0) dc189_0.1.2.2 rfl rfl (Or.inl rfl) rfl ?_
      refine am_s_if_ne dc189_0.2.1.1 rfl (fun z => absurd z (by decide)) (fun _ => ?_)
      refine am_s_aload_n rfl dc189_0.2.1.2 ?_
      refine am_s_iload_n rfl dc189_0.2.2.1 ?_
      refine am_s_putI dc189_0.2.2.2 rfl rfl rfl rfl ?_
      refine am_s_aload_n rfl dc189_1.1.1.1 ?_
      refine am_s_getR (r := 164) dc189_1.1.1.2 rfl rfl rfl (hp _ _ _ rfl) ?_
      refine am_s_iload_n rfl dc189_1.1.2.1 ?_
      refine am_s_dup2 rfl rfl dc189_1.1.2.2 ?_
      refine am_x_iaload (x := I 164 1) dc189_1.2.1.1 rfl (by decide +kernel) am_cN1 rfl ?_
      refine am_s_iconst am_cc1 dc189_1.2.1.2 ?_
      refine am_s_iadd dc189_1.2.2.1 ?_
      refine am_s_iastore dc189_1.2.2.2 rfl (by decide +kernel) am_cN1 ?_
      refine am_s_aload_n rfl dc189_2.1.1 ?_
      refine am_x_getI (x := 1) dc189_2.1.2.1 rfl rfl (Or.inl rfl) rfl ?_
      refine am_s_if_ne dc189_2.1.2.2 rfl (fun _ => ?_) (fun z => absurd z (by decide))
      refine am_s_iconst am_cc0 dc189_2.2.2.1 ?_
      refine am_s_zreturn dc189_2.2.2.2 rfl (by decide) (am_bkI ?_)
      refine am_s_if_ne dc309_2.2.2.1 rfl (fun z => absurd z (by decide)) (fun _ => ?_)
      refine am_s_iconst am_cc0 dc309_2.2.2.2 ?_
      exact am_s_ireturn dc309_3.1.1.1 rfl ((vi_t (vi_f q c1) c2))
    · refine am_s_iconst am_cc1 dc190_0.2.2.1 ?_
      refine am_s_goto rfl dc190_0.2.2.2 ?_
      refine am_s_zreturn dc190_1.2 rfl (by decide) (am_bkI ?_)
      refine am_s_if_eq dc309_1.1.1.1 rfl (fun z => absurd z (by decide)) (fun _ => ?_)
      refine am_s_iload_n rfl dc309_1.1.1.2 ?_
      refine am_s_if_lt dc309_1.1.2.1 rfl (fun c3 => ?_) (fun c3 => ?_)
      · refine am_s_iconst am_cc0 dc309_2.1.2.1 ?_
        refine am_s_iconst am_cc1 dc309_2.1.2.2 ?_
        refine am_s_iconst am_cc1 dc309_2.2.1.1 ?_
        refine am_s_virtual true dc309_2.2.1.2 rfl (by decide) rfl rfl rfl (am_mth_of rfl rfl ?_)
        refine am_s_iload_n rfl dc189_0.1.1.1 ?_
        refine am_s_if_ne dc189_0.1.1.2 rfl (fun z => absurd z (by decide)) (fun _ => ?_)
        refine am_s_aload_n rfl dc189_0.1.2.1 ?_
        refine am_x_getI (x := 0) dc189_0.1.2.2 rfl rfl (Or.inl rfl) rfl ?_
        refine am_s_if_ne dc189_0.2.1.1 rfl (fun z => absurd z (by decide)) (fun _ => ?_)
        refine am_s_aload_n rfl dc189_0.2.1.2 ?_
        refine am_s_iload_n rfl dc189_0.2.2.1 ?_
        refine am_s_putI dc189_0.2.2.2 rfl rfl rfl rfl ?_
        refine am_s_aload_n rfl dc189_1.1.1.1 ?_
        refine am_s_getR (r := 164) dc189_1.1.1.2 rfl rfl rfl (hp _ _ _ rfl) ?_
        refine am_s_iload_n rfl dc189_1.1.2.1 ?_
        refine am_s_dup2 rfl rfl dc189_1.1.2.2 ?_
        refine am_x_iaload (x := I 164 1) dc189_1.2.1.1 rfl (by decide +kernel) am_cN1 rfl ?_
        refine am_s_iconst am_cc1 dc189_1.2.1.2 ?_
        refine am_s_iadd dc189_1.2.2.1 ?_
        refine am_s_iastore dc189_1.2.2.2 rfl (by decide +kernel) am_cN1 ?_
        refine am_s_aload_n rfl dc189_2.1.1 ?_
        refine am_x_getI (x := 1) dc189_2.1.2.1 rfl rfl (Or.inl rfl) rfl ?_
        refine am_s_if_ne dc189_2.1.2.2 rfl (fun _ => ?_) (fun z => absurd z (by decide))
        refine am_s_iconst am_cc0 dc189_2.2.2.1 ?_
        refine am_s_zreturn dc189_2.2.2.2 rfl (by decide) (am_bkI ?_)
        refine am_s_if_ne dc309_2.2.2.1 rfl (fun z => absurd z (by decide)) (fun _ => ?_)
        refine am_s_iconst am_cc0 dc309_2.2.2.2 ?_
        exact am_s_ireturn dc309_3.1.1.1 rfl ((vi_t (vi_f (vi_f q c1) c2) c3))
      · refine am_s_iload_n rfl dc309_1.1.2.2 ?_
        refine am_s_iconst am_cc0 dc309_1.2.1.1 ?_
        refine am_s_iconst am_cc2 dc309_1.2.1.2 ?_
        refine am_s_static dc309_1.2.2.1 rfl rfl rfl (am_mth_of rfl rfl ?_)
        refine am_s_iload_n rfl dc190_0.1.1.1 ?_
        refine am_s_iload_n rfl dc190_0.1.1.2 ?_
        refine am_s_ic_lt dc190_0.1.2.1 rfl (fun c4 => ?_) (fun c4 => ?_)
        · refine am_s_iconst am_cc0 dc190_1.1 ?_
          refine am_s_zreturn dc190_1.2 rfl (by decide) (am_bkI ?_)
          refine am_s_if_eq dc309_1.2.2.2 rfl (fun _ => ?_) (fun z => absurd z (by decide))
          refine am_s_iconst am_cc0 dc309_2.1.2.1 ?_
          refine am_s_iconst am_cc1 dc309_2.1.2.2 ?_
          refine am_s_iconst am_cc1 dc309_2.2.1.1 ?_
          refine am_s_virtual true dc309_2.2.1.2 rfl (by decide) rfl rfl rfl (am_mth_of rfl rfl ?_)
          refine am_s_iload_n rfl dc189_0.1.1.1 ?_
          refine am_s_if_ne dc189_0.1.1.2 rfl (fun z => absurd z (by decide)) (fun _ => ?_)
          refine am_s_aload_n rfl dc189_0.1.2.1 ?_
          refine am_x_getI (x := 0) dc189_0.1.2.2 rfl rfl (Or.inl rfl) rfl ?_
          refine am_s_if_ne dc189_0.2.1.1 rfl (fun z => absurd z (by decide)) (fun _ => ?_)
          refine am_s_aload_n rfl dc189_0.2.1.2 ?_
          refine am_s_iload_n rfl dc189_0.2.2.1 ?_
          refine am_s_putI dc189_0.2.2.2 rfl rfl rfl rfl ?_
          refine am_s_aload_n rfl dc189_1.1.1.1 ?_
          refine am_s_getR (r := 164) dc189_1.1.1.2 rfl rfl rfl (hp _ _ _ rfl) ?_
          refine am_s_iload_n rfl dc189_1.1.2.1 ?_
          refine am_s_dup2 rfl rfl dc189_1.1.2.2 ?_
          refine am_x_iaload (x := I 164 1) dc189_1.2.1.1 rfl (by decide +kernel) am_cN1 rfl ?_
          refine am_s_iconst am_cc1 dc189_1.2.1.2 ?_
          refine am_s_iadd dc189_1.2.2.1 ?_
          refine am_s_iastore dc189_1.2.2.2 rfl (by decide +kernel) am_cN1 ?_
          refine am_s_aload_n rfl dc189_2.1.1 ?_
          refine am_x_getI (x := 1) dc189_2.1.2.1 rfl rfl (Or.inl rfl) rfl ?_
          refine am_s_if_ne dc189_2.1.2.2 rfl (fun _ => ?_) (fun z => absurd z (by decide))
          refine am_s_iconst am_cc0 dc189_2.2.2.1 ?_
          refine am_s_zreturn dc189_2.2.2.2 rfl (by decide) (am_bkI ?_)
          refine am_s_if_ne dc309_2.2.2.1 rfl (fun z => absurd z (by decide)) (fun _ => ?_)
          refine am_s_iconst am_cc0 dc309_2.2.2.2 ?_
          exact am_s_ireturn dc309_3.1.1.1 rfl ((vi_t (vi_f (vi_f (vi_f q c1) c2) c3) c4))
        · refine am_s_iload_n rfl dc190_0.1.2.2 ?_
          refine am_s_iload_n rfl dc190_0.2.1.1 ?_
          refine am_s_ic_gt dc190_0.2.1.2 rfl (fun c5 => ?_) (fun c5 => ?_)
          · refine am_s_iconst am_cc0 dc190_1.1 ?_
            refine am_s_zreturn dc190_1.2 rfl (by decide) (am_bkI ?_)
            refine am_s_if_eq dc309_1.2.2.2 rfl (fun _ => ?_) (fun z => absurd z (by decide))
            refine am_s_iconst am_cc0 dc309_2.1.2.1 ?_
            refine am_s_iconst am_cc1 dc309_2.1.2.2 ?_
            refine am_s_iconst am_cc1 dc309_2.2.1.1 ?_
            refine am_s_virtual true dc309_2.2.1.2 rfl (by decide) rfl rfl rfl (am_mth_of rfl rfl ?_)
            refine am_s_iload_n rfl dc189_0.1.1.1 ?_
            refine am_s_if_ne dc189_0.1.1.2 rfl (fun z => absurd z (by decide)) (fun _ => ?_)
            refine am_s_aload_n rfl dc189_0.1.2.1 ?_
            refine am_x_getI (x := 0) dc189_0.1.2.2 rfl rfl (Or.inl rfl) rfl ?_
            refine am_s_if_ne dc189_0.2.1.1 rfl (fun z => absurd z (by decide)) (fun _ => ?_)
            refine am_s_aload_n rfl dc189_0.2.1.2 ?_
            refine am_s_iload_n rfl dc189_0.2.2.1 ?_
            refine am_s_putI dc189_0.2.2.2 rfl rfl rfl rfl ?_
            refine am_s_aload_n rfl dc189_1.1.1.1 ?_
            refine am_s_getR (r := 164) dc189_1.1.1.2 rfl rfl rfl (hp _ _ _ rfl) ?_
            refine am_s_iload_n rfl dc189_1.1.2.1 ?_
            refine am_s_dup2 rfl rfl dc189_1.1.2.2 ?_
            refine am_x_iaload (x := I 164 1) dc189_1.2.1.1 rfl (by decide +kernel) am_cN1 rfl ?_
            refine am_s_iconst am_cc1 dc189_1.2.1.2 ?_
            refine am_s_iadd dc189_1.2.2.1 ?_
            refine am_s_iastore dc189_1.2.2.2 rfl (by decide +kernel) am_cN1 ?_
            refine am_s_aload_n rfl dc189_2.1.1 ?_
            refine am_x_getI (x := 1) dc189_2.1.2.1 rfl rfl (Or.inl rfl) rfl ?_
            refine am_s_if_ne dc189_2.1.2.2 rfl (fun _ => ?_) (fun z => absurd z (by decide))
            refine am_s_iconst am_cc0 dc189_2.2.2.1 ?_
            refine am_s_zreturn dc189_2.2.2.2 rfl (by decide) (am_bkI ?_)
            refine am_s_if_ne dc309_2.2.2.1 rfl (fun z => absurd z (by decide)) (fun _ => ?_)
            refine am_s_iconst am_cc0 dc309_2.2.2.2 ?_
            exact am_s_ireturn dc309_3.1.1.1 rfl ((vi_t (vi_f (vi_f (vi_f (vi_f q c1) c2) c3) c4) c5))
          · refine am_s_iconst am_cc1 dc190_0.2.2.1 ?_
            refine am_s_goto rfl dc190_0.2.2.2 ?_
            refine am_s_zreturn dc190_1.2 rfl (by decide) (am_bkI ?_)
            refine am_s_if_eq dc309_1.2.2.2 rfl (fun z => absurd z (by decide)) (fun _ => ?_)
            refine am_s_iconst am_cc1 dc309_2.1.1.1 ?_
            refine am_s_goto rfl dc309_2.1.1.2 ?_
            refine am_s_iconst am_cc1 dc309_2.1.2.2 ?_
            refine am_s_iconst am_cc1 dc309_2.2.1.1 ?_
            refine am_s_virtual true dc309_2.2.1.2 rfl (by decide) rfl rfl rfl (am_mth_of rfl rfl ?_)
            refine am_s_iload_n rfl dc189_0.1.1.1 ?_
            refine am_s_if_ne dc189_0.1.1.2 rfl (fun _ => ?_) (fun z => absurd z (by decide))
            refine am_s_aload_n rfl dc189_2.1.1 ?_
            refine am_x_getI (x := 0) dc189_2.1.2.1 rfl rfl (Or.inl rfl) rfl ?_
            refine am_s_if_ne dc189_2.1.2.2 rfl (fun z => absurd z (by decide)) (fun _ => ?_)
            refine am_s_iconst am_cc1 dc189_2.2.1.1 ?_
            refine am_s_goto rfl dc189_2.2.1.2 ?_
            refine am_s_zreturn dc189_2.2.2.2 rfl (by decide) (am_bkI ?_)
            refine am_s_if_ne dc309_2.2.2.1 rfl (fun _ => ?_) (fun z => absurd z (by decide))
            refine am_s_iload_n rfl dc309_3.1.1.2 ?_
            refine am_s_aload_n rfl dc309_3.1.2.1 ?_
            refine am_s_iload_n rfl dc309_3.1.2.2 ?_
            exact am_s_virtual true dc309_3.2.1.1 rfl (by decide) rfl rfl rfl ((vi_f (vi_f (vi_f (vi_f (vi_f q c1) c2) c3) c4) c5))
theorem v309_50 {sc : Option (Nat × (Nat → Int32))} {d k n : Nat} {P : am_O → Prop} {I : am_I} {J : am_J} {Pf : am_R} (hp : am_PF Pf) {l1 : Option Value} {x2 : Int32} {x3 : Int32} {s0 : Int32} {s1 : Int32} (q : (if s1 ≤ s0 then (P (.inl (some (.int (-1))), (am_SH, I, J, Pf), k, n)) else (am_in ((3 * x2) + x3) 15 = true) ∧ (P (.inl (some (.int (I 199 (Int32.toNatClampNeg ((3 * x2) + x3))))), (am_SH, I, J, Pf), k, n)))) : am_go sc d 309 (50, [some (.ref 163), l1, some (.int x2), some (.int x3)], [.int s1, .int s0], (am_SH, I, J, Pf), k, n) P := by
  refine am_s_ic_ge dc309_3.2.1.2 rfl (fun c1 => ?_) (fun c1 => ?_)
  · refine am_s_iconst am_ccm1 dc309_4.2.2.2 ?_
    exact am_s_ireturn dc309_5 rfl ((vi_t q c1))
  · refine am_s_aload_n rfl dc309_3.2.2.1 ?_
    refine am_s_getR (r := 199) dc309_3.2.2.2 rfl rfl rfl (hp _ _ _ rfl) ?_
    refine am_s_iconst am_cc3 dc309_4.1.1.1 ?_
    refine am_s_iload_n rfl dc309_4.1.1.2 ?_
    refine am_s_imul dc309_4.1.2.1 ?_
    refine am_s_iload_n rfl dc309_4.1.2.2 ?_
    refine am_s_iadd dc309_4.2.1.1 ?_
    refine am_x_iaload (x := I 199 (Int32.toNatClampNeg ((3 * x2) + x3))) dc309_4.2.1.2 rfl ((vi_f q c1).1) rfl rfl ?_
    refine am_s_goto rfl dc309_4.2.2.1 ?_
    exact am_s_ireturn dc309_5 rfl ((vi_f q c1).2)
-- isThere (II)Z
theorem v310_0 {sc : Option (Nat × (Nat → Int32))} {d k n : Nat} {P : am_O → Prop} {I : am_I} {J : am_J} {Pf : am_R} (hp : am_PF Pf) {x1 : Int32} {x2 : Int32} (q : (if x1 < 0 then (if (I 163 0) = 0 then (P (.inl (some (.int 0)), (am_SH, am_u (am_u I 163 0 1) 164 0 ((I 164 0) + 1), J, Pf), k, n)) else (P (.inl (some (.int 0)), (am_SH, I, J, Pf), k, n))) else (if ((I 167 2) - 1) < x1 then (if (I 163 0) = 0 then (P (.inl (some (.int 0)), (am_SH, am_u (am_u I 163 0 1) 164 0 ((I 164 0) + 1), J, Pf), k, n)) else (P (.inl (some (.int 0)), (am_SH, I, J, Pf), k, n))) else (if x2 < 0 then (if (I 163 0) = 0 then (P (.inl (some (.int 0)), (am_SH, am_u (am_u I 163 0 1) 164 0 ((I 164 0) + 1), J, Pf), k, n)) else (P (.inl (some (.int 0)), (am_SH, I, J, Pf), k, n))) else (if ((I 180 0) - 1) < x2 then (if (I 163 0) = 0 then (P (.inl (some (.int 0)), (am_SH, am_u (am_u I 163 0 1) 164 0 ((I 164 0) + 1), J, Pf), k, n)) else (P (.inl (some (.int 0)), (am_SH, I, J, Pf), k, n))) else (if (I 163 0) = 0 then (P (.inl (some (.int 1)), (am_SH, I, J, Pf), k, n)) else (P (.inl (some (.int 0)), (am_SH, I, J, Pf), k, n)))))))) : am_go sc (d + 1) 310 (0, [some (.ref 163), some (.int x1), some (.int x2)], [], (am_SH, I, J, Pf), k, n) P := by
  refine am_s_aload_n rfl dc310_0.1.1.1 ?_
  refine am_s_iload_n rfl dc310_0.1.1.2 ?_
  refine am_s_iconst am_cc0 dc310_0.1.2.1 ?_
  refine am_s_aload_n rfl dc310_0.1.2.2 ?_
  refine am_s_getR (r := 167) dc310_0.2.1.1 rfl rfl rfl (hp _ _ _ rfl) ?_
  refine am_s_iconst am_cc2 dc310_0.2.1.2 ?_
  refine am_x_iaload (x := I 167 2) dc310_0.2.2.1 rfl (by decide +kernel) am_cN2 rfl ?_
  refine am_s_iconst am_cc1 dc310_0.2.2.2 ?_
  refine am_s_isub dc310_1.1.1.1 ?_
  refine am_s_static dc310_1.1.1.2 rfl rfl rfl (am_mth_of rfl rfl ?_)
  refine am_s_iload_n rfl dc190_0.1.1.1 ?_
  refine am_s_iload_n rfl dc190_0.1.1.2 ?_
  refine am_s_ic_lt dc190_0.1.2.1 rfl (fun c1 => ?_) (fun c1 => ?_)
  · refine am_s_iconst am_cc0 dc190_1.1 ?_
    refine am_s_zreturn dc190_1.2 rfl (by decide) (am_bkI ?_)
    refine am_s_if_eq dc310_1.1.2.1 rfl (fun _ => ?_) (fun z => absurd z (by decide))
    refine am_s_iconst am_cc0 dc310_2.2.2.2 ?_
    refine am_s_iconst am_cc1 dc310_3.1.1 ?_
    refine am_s_iconst am_cc0 dc310_3.1.2 ?_
    refine am_s_virtual true dc310_3.2.1 rfl (by decide) rfl rfl rfl (am_mth_of rfl rfl ?_)
    refine am_s_iload_n rfl dc189_0.1.1.1 ?_
    refine am_s_if_ne dc189_0.1.1.2 rfl (fun z => absurd z (by decide)) (fun _ => ?_)
    refine am_s_aload_n rfl dc189_0.1.2.1 ?_
    refine am_x_getI (x := I 163 0) dc189_0.1.2.2 rfl rfl (Or.inl rfl) rfl ?_
    refine am_s_if_ne dc189_0.2.1.1 rfl (fun c2 => ?_) (fun c2 => ?_)
    · refine am_s_aload_n rfl dc189_2.1.1 ?_
      refine am_x_getI (x := I 163 0) dc189_2.1.2.1 rfl rfl (Or.inl rfl) rfl ?_
      refine am_s_if_ne dc189_2.1.2.2 rfl (fun _ => ?_) (fun z => absurd c2 z)
      refine am_s_iconst am_cc0 dc189_2.2.2.1 ?_
      refine am_s_zreturn dc189_2.2.2.2 rfl (by decide) (am_bkI ?_)
      exact am_s_zreturn dc310_3.2.2 rfl (by decide) ((vi_f (vi_t q c1) c2))
    · refine am_s_aload_n rfl dc189_0.2.1.2 ?_
      refine am_s_iload_n rfl dc189_0.2.2.1 ?_
      refine am_s_putI dc189_0.2.2.2 rfl rfl rfl rfl ?_
      refine am_s_aload_n rfl dc189_1.1.1.1 ?_
      refine am_s_getR (r := 164) dc189_1.1.1.2 rfl rfl rfl (hp _ _ _ rfl) ?_
      refine am_s_iload_n rfl dc189_1.1.2.1 ?_
      refine am_s_dup2 rfl rfl dc189_1.1.2.2 ?_
      refine am_x_iaload (x := I 164 0) dc189_1.2.1.1 rfl (by decide +kernel) am_cN0 rfl ?_
      refine am_s_iconst am_cc1 dc189_1.2.1.2 ?_
      refine am_s_iadd dc189_1.2.2.1 ?_
      refine am_s_iastore dc189_1.2.2.2 rfl (by decide +kernel) am_cN0 ?_
      refine am_s_aload_n rfl dc189_2.1.1 ?_
      refine am_x_getI (x := 1) dc189_2.1.2.1 rfl rfl (Or.inl rfl) rfl ?_
      refine am_s_if_ne dc189_2.1.2.2 rfl (fun _ => ?_) (fun z => absurd z (by decide))
      refine am_s_iconst am_cc0 dc189_2.2.2.1 ?_
      refine am_s_zreturn dc189_2.2.2.2 rfl (by decide) (am_bkI ?_)
      exact am_s_zreturn dc310_3.2.2 rfl (by decide) ((vi_t (vi_t q c1) (Decidable.not_not.mp c2)))
  · refine am_s_iload_n rfl dc190_0.1.2.2 ?_
    refine am_s_iload_n rfl dc190_0.2.1.1 ?_
    refine am_s_ic_gt dc190_0.2.1.2 rfl (fun c2 => ?_) (fun c2 => ?_)
    · refine am_s_iconst am_cc0 dc190_1.1 ?_
      refine am_s_zreturn dc190_1.2 rfl (by decide) (am_bkI ?_)
      refine am_s_if_eq dc310_1.1.2.1 rfl (fun _ => ?_) (fun z => absurd z (by decide))
      refine am_s_iconst am_cc0 dc310_2.2.2.2 ?_
      refine am_s_iconst am_cc1 dc310_3.1.1 ?_
      refine am_s_iconst am_cc0 dc310_3.1.2 ?_
      refine am_s_virtual true dc310_3.2.1 rfl (by decide) rfl rfl rfl (am_mth_of rfl rfl ?_)
      refine am_s_iload_n rfl dc189_0.1.1.1 ?_
      refine am_s_if_ne dc189_0.1.1.2 rfl (fun z => absurd z (by decide)) (fun _ => ?_)
      refine am_s_aload_n rfl dc189_0.1.2.1 ?_
      refine am_x_getI (x := I 163 0) dc189_0.1.2.2 rfl rfl (Or.inl rfl) rfl ?_
      refine am_s_if_ne dc189_0.2.1.1 rfl (fun c3 => ?_) (fun c3 => ?_)
      · refine am_s_aload_n rfl dc189_2.1.1 ?_
        refine am_x_getI (x := I 163 0) dc189_2.1.2.1 rfl rfl (Or.inl rfl) rfl ?_
        refine am_s_if_ne dc189_2.1.2.2 rfl (fun _ => ?_) (fun z => absurd c3 z)
        refine am_s_iconst am_cc0 dc189_2.2.2.1 ?_
        refine am_s_zreturn dc189_2.2.2.2 rfl (by decide) (am_bkI ?_)
        exact am_s_zreturn dc310_3.2.2 rfl (by decide) ((vi_f (vi_t (vi_f q c1) c2) c3))
      · refine am_s_aload_n rfl dc189_0.2.1.2 ?_
        refine am_s_iload_n rfl dc189_0.2.2.1 ?_
        refine am_s_putI dc189_0.2.2.2 rfl rfl rfl rfl ?_
        refine am_s_aload_n rfl dc189_1.1.1.1 ?_
        refine am_s_getR (r := 164) dc189_1.1.1.2 rfl rfl rfl (hp _ _ _ rfl) ?_
        refine am_s_iload_n rfl dc189_1.1.2.1 ?_
        refine am_s_dup2 rfl rfl dc189_1.1.2.2 ?_
        refine am_x_iaload (x := I 164 0) dc189_1.2.1.1 rfl (by decide +kernel) am_cN0 rfl ?_
        refine am_s_iconst am_cc1 dc189_1.2.1.2 ?_
        refine am_s_iadd dc189_1.2.2.1 ?_
        refine am_s_iastore dc189_1.2.2.2 rfl (by decide +kernel) am_cN0 ?_
        refine am_s_aload_n rfl dc189_2.1.1 ?_
        refine am_x_getI (x := 1) dc189_2.1.2.1 rfl rfl (Or.inl rfl) rfl ?_
        refine am_s_if_ne dc189_2.1.2.2 rfl (fun _ => ?_) (fun z => absurd z (by decide))
        refine am_s_iconst am_cc0 dc189_2.2.2.1 ?_
        refine am_s_zreturn dc189_2.2.2.2 rfl (by decide) (am_bkI ?_)
        exact am_s_zreturn dc310_3.2.2 rfl (by decide) ((vi_t (vi_t (vi_f q c1) c2) (Decidable.not_not.mp c3)))
    · refine am_s_iconst am_cc1 dc190_0.2.2.1 ?_
      refine am_s_goto rfl dc190_0.2.2.2 ?_
      refine am_s_zreturn dc190_1.2 rfl (by decide) (am_bkI ?_)
      refine am_s_if_eq dc310_1.1.2.1 rfl (fun z => absurd z (by decide)) (fun _ => ?_)
      refine am_s_iload_n rfl dc310_1.1.2.2 ?_
      refine am_s_iconst am_cc0 dc310_1.2.1.1 ?_
      refine am_s_aload_n rfl dc310_1.2.1.2 ?_
      refine am_s_getR (r := 180) dc310_1.2.2.1 rfl rfl rfl (hp _ _ _ rfl) ?_
      refine am_s_iconst am_cc0 dc310_1.2.2.2 ?_
      refine am_x_iaload (x := I 180 0) dc310_2.1.1.1 rfl (by decide +kernel) am_cN0 rfl ?_
      refine am_s_iconst am_cc1 dc310_2.1.1.2 ?_
      refine am_s_isub dc310_2.1.2.1 ?_
      refine am_s_static dc310_2.1.2.2 rfl rfl rfl (am_mth_of rfl rfl ?_)
      refine am_s_iload_n rfl dc190_0.1.1.1 ?_
      refine am_s_iload_n rfl dc190_0.1.1.2 ?_
      refine am_s_ic_lt dc190_0.1.2.1 rfl (fun c3 => ?_) (fun c3 => ?_)
      · refine am_s_iconst am_cc0 dc190_1.1 ?_
        refine am_s_zreturn dc190_1.2 rfl (by decide) (am_bkI ?_)
        refine am_s_if_eq dc310_2.2.1.1 rfl (fun _ => ?_) (fun z => absurd z (by decide))
        refine am_s_iconst am_cc0 dc310_2.2.2.2 ?_
        refine am_s_iconst am_cc1 dc310_3.1.1 ?_
        refine am_s_iconst am_cc0 dc310_3.1.2 ?_
        refine am_s_virtual true dc310_3.2.1 rfl (by decide) rfl rfl rfl (am_mth_of rfl rfl ?_)
        refine am_s_iload_n rfl dc189_0.1.1.1 ?_
        refine am_s_if_ne dc189_0.1.1.2 rfl (fun z => absurd z (by decide)) (fun _ => ?_)
        refine am_s_aload_n rfl dc189_0.1.2.1 ?_
        refine am_x_getI (x := I 163 0) dc189_0.1.2.2 rfl rfl (Or.inl rfl) rfl ?_
        refine am_s_if_ne dc189_0.2.1.1 rfl (fun c4 => ?_) (fun c4 => ?_)
        · refine am_s_aload_n rfl dc189_2.1.1 ?_
          refine am_x_getI (x := I 163 0) dc189_2.1.2.1 rfl rfl (Or.inl rfl) rfl ?_
          refine am_s_if_ne dc189_2.1.2.2 rfl (fun _ => ?_) (fun z => absurd c4 z)
          refine am_s_iconst am_cc0 dc189_2.2.2.1 ?_
          refine am_s_zreturn dc189_2.2.2.2 rfl (by decide) (am_bkI ?_)
          exact am_s_zreturn dc310_3.2.2 rfl (by decide) ((vi_f (vi_t (vi_f (vi_f q c1) c2) c3) c4))
        · refine am_s_aload_n rfl dc189_0.2.1.2 ?_
          refine am_s_iload_n rfl dc189_0.2.2.1 ?_
          refine am_s_putI dc189_0.2.2.2 rfl rfl rfl rfl ?_
          refine am_s_aload_n rfl dc189_1.1.1.1 ?_
          refine am_s_getR (r := 164) dc189_1.1.1.2 rfl rfl rfl (hp _ _ _ rfl) ?_
          refine am_s_iload_n rfl dc189_1.1.2.1 ?_
          refine am_s_dup2 rfl rfl dc189_1.1.2.2 ?_
          refine am_x_iaload (x := I 164 0) dc189_1.2.1.1 rfl (by decide +kernel) am_cN0 rfl ?_
          refine am_s_iconst am_cc1 dc189_1.2.1.2 ?_
          refine am_s_iadd dc189_1.2.2.1 ?_
          refine am_s_iastore dc189_1.2.2.2 rfl (by decide +kernel) am_cN0 ?_
          refine am_s_aload_n rfl dc189_2.1.1 ?_
          refine am_x_getI (x := 1) dc189_2.1.2.1 rfl rfl (Or.inl rfl) rfl ?_
          refine am_s_if_ne dc189_2.1.2.2 rfl (fun _ => ?_) (fun z => absurd z (by decide))
          refine am_s_iconst am_cc0 dc189_2.2.2.1 ?_
          refine am_s_zreturn dc189_2.2.2.2 rfl (by decide) (am_bkI ?_)
          exact am_s_zreturn dc310_3.2.2 rfl (by decide) ((vi_t (vi_t (vi_f (vi_f q c1) c2) c3) (Decidable.not_not.mp c4)))
      · refine am_s_iload_n rfl dc190_0.1.2.2 ?_
        refine am_s_iload_n rfl dc190_0.2.1.1 ?_
        refine am_s_ic_gt dc190_0.2.1.2 rfl (fun c4 => ?_) (fun c4 => ?_)
        · refine am_s_iconst am_cc0 dc190_1.1 ?_
          refine am_s_zreturn dc190_1.2 rfl (by decide) (am_bkI ?_)
          refine am_s_if_eq dc310_2.2.1.1 rfl (fun _ => ?_) (fun z => absurd z (by decide))
          refine am_s_iconst am_cc0 dc310_2.2.2.2 ?_
          refine am_s_iconst am_cc1 dc310_3.1.1 ?_
          refine am_s_iconst am_cc0 dc310_3.1.2 ?_
          refine am_s_virtual true dc310_3.2.1 rfl (by decide) rfl rfl rfl (am_mth_of rfl rfl ?_)
          refine am_s_iload_n rfl dc189_0.1.1.1 ?_
          refine am_s_if_ne dc189_0.1.1.2 rfl (fun z => absurd z (by decide)) (fun _ => ?_)
          refine am_s_aload_n rfl dc189_0.1.2.1 ?_
          refine am_x_getI (x := I 163 0) dc189_0.1.2.2 rfl rfl (Or.inl rfl) rfl ?_
          refine am_s_if_ne dc189_0.2.1.1 rfl (fun c5 => ?_) (fun c5 => ?_)
          · refine am_s_aload_n rfl dc189_2.1.1 ?_
            refine am_x_getI (x := I 163 0) dc189_2.1.2.1 rfl rfl (Or.inl rfl) rfl ?_
            refine am_s_if_ne dc189_2.1.2.2 rfl (fun _ => ?_) (fun z => absurd c5 z)
            refine am_s_iconst am_cc0 dc189_2.2.2.1 ?_
            refine am_s_zreturn dc189_2.2.2.2 rfl (by decide) (am_bkI ?_)
            exact am_s_zreturn dc310_3.2.2 rfl (by decide) ((vi_f (vi_t (vi_f (vi_f (vi_f q c1) c2) c3) c4) c5))
          · refine am_s_aload_n rfl dc189_0.2.1.2 ?_
            refine am_s_iload_n rfl dc189_0.2.2.1 ?_
            refine am_s_putI dc189_0.2.2.2 rfl rfl rfl rfl ?_
            refine am_s_aload_n rfl dc189_1.1.1.1 ?_
            refine am_s_getR (r := 164) dc189_1.1.1.2 rfl rfl rfl (hp _ _ _ rfl) ?_
            refine am_s_iload_n rfl dc189_1.1.2.1 ?_
            refine am_s_dup2 rfl rfl dc189_1.1.2.2 ?_
            refine am_x_iaload (x := I 164 0) dc189_1.2.1.1 rfl (by decide +kernel) am_cN0 rfl ?_
            refine am_s_iconst am_cc1 dc189_1.2.1.2 ?_
            refine am_s_iadd dc189_1.2.2.1 ?_
            refine am_s_iastore dc189_1.2.2.2 rfl (by decide +kernel) am_cN0 ?_
            refine am_s_aload_n rfl dc189_2.1.1 ?_
            refine am_x_getI (x := 1) dc189_2.1.2.1 rfl rfl (Or.inl rfl) rfl ?_
            refine am_s_if_ne dc189_2.1.2.2 rfl (fun _ => ?_) (fun z => absurd z (by decide))
            refine am_s_iconst am_cc0 dc189_2.2.2.1 ?_
            refine am_s_zreturn dc189_2.2.2.2 rfl (by decide) (am_bkI ?_)
            exact am_s_zreturn dc310_3.2.2 rfl (by decide) ((vi_t (vi_t (vi_f (vi_f (vi_f q c1) c2) c3) c4) (Decidable.not_not.mp c5)))
        · refine am_s_iconst am_cc1 dc190_0.2.2.1 ?_
          refine am_s_goto rfl dc190_0.2.2.2 ?_
          refine am_s_zreturn dc190_1.2 rfl (by decide) (am_bkI ?_)
          refine am_s_if_eq dc310_2.2.1.1 rfl (fun z => absurd z (by decide)) (fun _ => ?_)
          refine am_s_iconst am_cc1 dc310_2.2.1.2 ?_
          refine am_s_goto rfl dc310_2.2.2.1 ?_
          refine am_s_iconst am_cc1 dc310_3.1.1 ?_
          refine am_s_iconst am_cc0 dc310_3.1.2 ?_
          refine am_s_virtual true dc310_3.2.1 rfl (by decide) rfl rfl rfl (am_mth_of rfl rfl ?_)
          refine am_s_iload_n rfl dc189_0.1.1.1 ?_
          refine am_s_if_ne dc189_0.1.1.2 rfl (fun _ => ?_) (fun z => absurd z (by decide))
          refine am_s_aload_n rfl dc189_2.1.1 ?_
          refine am_x_getI (x := I 163 0) dc189_2.1.2.1 rfl rfl (Or.inl rfl) rfl ?_
          refine am_s_if_ne dc189_2.1.2.2 rfl (fun c5 => ?_) (fun c5 => ?_)
          · refine am_s_iconst am_cc0 dc189_2.2.2.1 ?_
            refine am_s_zreturn dc189_2.2.2.2 rfl (by decide) (am_bkI ?_)
            exact am_s_zreturn dc310_3.2.2 rfl (by decide) ((vi_f (vi_f (vi_f (vi_f (vi_f q c1) c2) c3) c4) c5))
          · refine am_s_iconst am_cc1 dc189_2.2.1.1 ?_
            refine am_s_goto rfl dc189_2.2.1.2 ?_
            refine am_s_zreturn dc189_2.2.2.2 rfl (by decide) (am_bkI ?_)
            exact am_s_zreturn dc310_3.2.2 rfl (by decide) ((vi_t (vi_f (vi_f (vi_f (vi_f q c1) c2) c3) c4) (Decidable.not_not.mp c5)))
-- bodyOf (II)I
theorem v311_0 {sc : Option (Nat × (Nat → Int32))} {d k n : Nat} {P : am_O → Prop} {I : am_I} {J : am_J} {Pf : am_R} (hp : am_PF Pf) {x1 : Int32} {x2 : Int32} (q : (am_mth d 271 [.ref 163] (am_SH, I, J, Pf) (am_af sc d 311 1 [some (.ref 163), some (.int x1), some (.int x2)] [.ref 163] [] (am_SH, I, J, Pf) k n true P))) : am_go sc d 311 (0, [some (.ref 163), some (.int x1), some (.int x2)], [], (am_SH, I, J, Pf), k, n) P := by
  refine am_s_aload_n rfl dc311_0.1.1.1 ?_
  exact am_s_virtual true dc311_0.1.1.2 rfl (by decide) rfl rfl rfl (q)
theorem v311_4 {sc : Option (Nat × (Nat → Int32))} {d k n : Nat} {P : am_O → Prop} {I : am_I} {J : am_J} {Pf : am_R} (hp : am_PF Pf) {x1 : Int32} {x2 : Int32} (q : (am_mth d 259 [.ref 163, .int 0, .int x1, .int x2] (am_SH, I, J, Pf) (am_af sc d 311 8 [some (.ref 163), some (.int x1), some (.int x2)] [.int x2, .int x1, .int 0, .ref 163] [] (am_SH, I, J, Pf) k n true P))) : am_go sc d 311 (4, [some (.ref 163), some (.int x1), some (.int x2)], [], (am_SH, I, J, Pf), k, n) P := by
  refine am_s_aload_n rfl dc311_0.1.2.1 ?_
  refine am_s_iconst am_cc0 dc311_0.1.2.2 ?_
  refine am_s_iload_n rfl dc311_0.2.1.1 ?_
  refine am_s_iload_n rfl dc311_0.2.1.2 ?_
  exact am_s_virtual true dc311_0.2.2.1 rfl (by decide) rfl rfl rfl (q)
theorem v311_11 {sc : Option (Nat × (Nat → Int32))} {d k n : Nat} {P : am_O → Prop} {I : am_I} {J : am_J} {Pf : am_R} (hp : am_PF Pf) {l1 : Option Value} {l2 : Option Value} {s0 : Int32} (q : (if s0 = (-1) then (P (.inl (some (.int (-1))), (am_SH, I, J, Pf), k, n)) else (am_in ((25 : Int32) * 1) 125 = true) ∧ (P (.inl (some (.int (I 183 (Int32.toNatClampNeg ((25 : Int32) * 1))))), (am_SH, I, J, Pf), k, n)))) : am_go sc (d + 1) 311 (11, [some (.ref 163), l1, l2], [.int s0], (am_SH, I, J, Pf), k, n) P := by
  refine am_s_iconst am_ccm1 dc311_0.2.2.2 ?_
  refine am_s_ic_ne dc311_1.1.1 rfl (fun c1 => ?_) (fun c1 => ?_)
  · refine am_s_aload_n rfl dc311_1.2.1.1 ?_
    refine am_s_iconst am_cc1 dc311_1.2.1.2 ?_
    refine am_s_virtual true dc311_1.2.2.1 rfl (by decide) rfl rfl rfl (am_mth_of rfl rfl ?_)
    refine am_s_aload_n rfl dc254_0.1.1 ?_
    refine am_s_getR (r := 183) dc254_0.1.2.1 rfl rfl rfl (hp _ _ _ rfl) ?_
    refine am_s_bipush am_cb25 dc254_0.1.2.2 ?_
    refine am_s_iload_n rfl dc254_0.2.1.1 ?_
    refine am_s_imul dc254_0.2.1.2 ?_
    refine am_x_iaload (x := I 183 (Int32.toNatClampNeg ((25 : Int32) * 1))) dc254_0.2.2.1 rfl ((vi_f q c1).1) rfl rfl ?_
    refine am_s_ireturn dc254_0.2.2.2 rfl (am_bkI ?_)
    exact am_s_ireturn dc311_1.2.2.2 rfl ((vi_f q c1).2)
  · refine am_s_iconst am_ccm1 dc311_1.1.2.1 ?_
    refine am_s_goto rfl dc311_1.1.2.2 ?_
    exact am_s_ireturn dc311_1.2.2.2 rfl ((vi_t q (Decidable.not_not.mp c1)))
-- body (II)I
theorem v312_0 {sc : Option (Nat × (Nat → Int32))} {d k n : Nat} {P : am_O → Prop} {I : am_I} {J : am_J} {Pf : am_R} (hp : am_PF Pf) {x1 : Int32} {x2 : Int32} (q : (am_mth d 310 [.ref 163, .int x1, .int x2] (am_SH, am_u I 163 0 0, J, Pf) (am_af sc d 312 8 [some (.ref 163), some (.int x1), some (.int x2)] [.int x2, .int x1, .ref 163] [] (am_SH, am_u I 163 0 0, J, Pf) k n true P))) : am_go sc d 312 (0, [some (.ref 163), some (.int x1), some (.int x2)], [], (am_SH, I, J, Pf), k, n) P := by
  refine am_s_aload_n rfl dc312_0.1.1.1 ?_
  refine am_s_iconst am_cc0 dc312_0.1.1.2 ?_
  refine am_s_putI dc312_0.1.2.1 rfl rfl rfl rfl ?_
  refine am_s_aload_n rfl dc312_0.1.2.2 ?_
  refine am_s_iload_n rfl dc312_0.2.1.1 ?_
  refine am_s_iload_n rfl dc312_0.2.1.2 ?_
  exact am_s_virtual true dc312_0.2.2.1 rfl (by decide) rfl rfl rfl (q)
theorem v312_11 {sc : Option (Nat × (Nat → Int32))} {d k n : Nat} {P : am_O → Prop} {I : am_I} {J : am_J} {Pf : am_R} (hp : am_PF Pf) {x1 : Int32} {x2 : Int32} {s0 : Int32} (q : (if s0 = 0 then (P (.inl (some (.int 0)), (am_SH, I, J, Pf), k, n)) else (am_mth d 311 [.ref 163, .int x1, .int x2] (am_SH, I, J, Pf) (am_af sc d 312 19 [some (.ref 163), some (.int x1), some (.int x2)] [.int x2, .int x1, .ref 163] [] (am_SH, I, J, Pf) k n true P)))) : am_go sc d 312 (11, [some (.ref 163), some (.int x1), some (.int x2)], [.int s0], (am_SH, I, J, Pf), k, n) P := by
  refine am_s_if_ne dc312_0.2.2.2 rfl (fun c1 => ?_) (fun c1 => ?_)
  · refine am_s_aload_n rfl dc312_1.1.2.2 ?_
    refine am_s_iload_n rfl dc312_1.2.1.1 ?_
    refine am_s_iload_n rfl dc312_1.2.1.2 ?_
    exact am_s_virtual true dc312_1.2.2.1 rfl (by decide) rfl rfl rfl ((vi_f q c1))
  · refine am_s_iconst am_cc0 dc312_1.1.1 ?_
    exact am_s_ireturn dc312_1.1.2.1 rfl ((vi_t q (Decidable.not_not.mp c1)))
theorem v312_22 {sc : Option (Nat × (Nat → Int32))} {d k n : Nat} {P : am_O → Prop} {I : am_I} {J : am_J} {Pf : am_R} (hp : am_PF Pf) {l0 : Option Value} {l1 : Option Value} {l2 : Option Value} {s0 : Int32} (q : (P (.inl (some (.int s0)), (am_SH, I, J, Pf), k, n))) : am_go sc d 312 (22, [l0, l1, l2], [.int s0], (am_SH, I, J, Pf), k, n) P := by
  exact am_s_ireturn dc312_1.2.2.2 rfl (q)
-- inside (III)I
theorem v313_0 {sc : Option (Nat × (Nat → Int32))} {d k n : Nat} {P : am_O → Prop} {I : am_I} {J : am_J} {Pf : am_R} (hp : am_PF Pf) {x1 : Int32} {x2 : Int32} {x3 : Int32} (q : (am_mth d 310 [.ref 163, .int x1, .int x2] (am_SH, am_u I 163 0 0, J, Pf) (am_af sc d 313 8 [some (.ref 163), some (.int x1), some (.int x2), some (.int x3)] [.int x2, .int x1, .ref 163] [] (am_SH, am_u I 163 0 0, J, Pf) k n true P))) : am_go sc d 313 (0, [some (.ref 163), some (.int x1), some (.int x2), some (.int x3)], [], (am_SH, I, J, Pf), k, n) P := by
  refine am_s_aload_n rfl dc313_0.1.1.1 ?_
  refine am_s_iconst am_cc0 dc313_0.1.1.2 ?_
  refine am_s_putI dc313_0.1.2.1 rfl rfl rfl rfl ?_
  refine am_s_aload_n rfl dc313_0.1.2.2 ?_
  refine am_s_iload_n rfl dc313_0.2.1.1 ?_
  refine am_s_iload_n rfl dc313_0.2.1.2 ?_
  exact am_s_virtual true dc313_0.2.2.1 rfl (by decide) rfl rfl rfl (q)
theorem v313_11 {sc : Option (Nat × (Nat → Int32))} {d k n : Nat} {P : am_O → Prop} {I : am_I} {J : am_J} {Pf : am_R} (hp : am_PF Pf) {x1 : Int32} {x2 : Int32} {x3 : Int32} {s0 : Int32} (q : (if s0 = 0 then (P (.inl (some (.int 0)), (am_SH, I, J, Pf), k, n)) else (if x3 < 0 then (if (I 163 0) = 0 then (P (.inl (some (.int 0)), (am_SH, am_u (am_u I 163 0 2) 164 1 ((I 164 1) + 1), J, Pf), k, n)) else (P (.inl (some (.int 0)), (am_SH, I, J, Pf), k, n))) else (if (I 163 0) = 0 then (am_mth (d + 1) 311 [.ref 163, .int x1, .int x2] (am_SH, I, J, Pf) (am_af sc (d + 1) 313 38 [some (.ref 163), some (.int x1), some (.int x2), some (.int x3)] [.int x2, .int x1, .ref 163, .int x3] [.int x3] (am_SH, I, J, Pf) k n true P)) else (P (.inl (some (.int 0)), (am_SH, I, J, Pf), k, n)))))) : am_go sc (d + 1) 313 (11, [some (.ref 163), some (.int x1), some (.int x2), some (.int x3)], [.int s0], (am_SH, I, J, Pf), k, n) P := by
  refine am_s_if_eq dc313_0.2.2.2 rfl (fun c1 => ?_) (fun c1 => ?_)
  · refine am_s_iconst am_cc0 dc313_2.1.2.1 ?_
    exact am_s_ireturn dc313_2.1.2.2 rfl ((vi_t q c1))
  · refine am_s_aload_n rfl dc313_1.1.1.1 ?_
    refine am_s_iload_n rfl dc313_1.1.1.2 ?_
    refine am_s_if_lt dc313_1.1.2.1 rfl (fun c2 => ?_) (fun c2 => ?_)
    · refine am_s_iconst am_cc0 dc313_1.2.1.2 ?_
      refine am_s_iconst am_cc2 dc313_1.2.2.1 ?_
      refine am_s_iconst am_cc1 dc313_1.2.2.2 ?_
      refine am_s_virtual true dc313_2.1.1.1 rfl (by decide) rfl rfl rfl (am_mth_of rfl rfl ?_)
      refine am_s_iload_n rfl dc189_0.1.1.1 ?_
      refine am_s_if_ne dc189_0.1.1.2 rfl (fun z => absurd z (by decide)) (fun _ => ?_)
      refine am_s_aload_n rfl dc189_0.1.2.1 ?_
      refine am_x_getI (x := I 163 0) dc189_0.1.2.2 rfl rfl (Or.inl rfl) rfl ?_
      refine am_s_if_ne dc189_0.2.1.1 rfl (fun c3 => ?_) (fun c3 => ?_)
      · refine am_s_aload_n rfl dc189_2.1.1 ?_
        refine am_x_getI (x := I 163 0) dc189_2.1.2.1 rfl rfl (Or.inl rfl) rfl ?_
        refine am_s_if_ne dc189_2.1.2.2 rfl (fun _ => ?_) (fun z => absurd c3 z)
        refine am_s_iconst am_cc0 dc189_2.2.2.1 ?_
        refine am_s_zreturn dc189_2.2.2.2 rfl (by decide) (am_bkI ?_)
        refine am_s_if_ne dc313_2.1.1.2 rfl (fun z => absurd z (by decide)) (fun _ => ?_)
        refine am_s_iconst am_cc0 dc313_2.1.2.1 ?_
        exact am_s_ireturn dc313_2.1.2.2 rfl ((vi_f (vi_t (vi_f q c1) c2) c3))
      · refine am_s_aload_n rfl dc189_0.2.1.2 ?_
        refine am_s_iload_n rfl dc189_0.2.2.1 ?_
        refine am_s_putI dc189_0.2.2.2 rfl rfl rfl rfl ?_
        refine am_s_aload_n rfl dc189_1.1.1.1 ?_
        refine am_s_getR (r := 164) dc189_1.1.1.2 rfl rfl rfl (hp _ _ _ rfl) ?_
        refine am_s_iload_n rfl dc189_1.1.2.1 ?_
        refine am_s_dup2 rfl rfl dc189_1.1.2.2 ?_
        refine am_x_iaload (x := I 164 1) dc189_1.2.1.1 rfl (by decide +kernel) am_cN1 rfl ?_
        refine am_s_iconst am_cc1 dc189_1.2.1.2 ?_
        refine am_s_iadd dc189_1.2.2.1 ?_
        refine am_s_iastore dc189_1.2.2.2 rfl (by decide +kernel) am_cN1 ?_
        refine am_s_aload_n rfl dc189_2.1.1 ?_
        refine am_x_getI (x := 2) dc189_2.1.2.1 rfl rfl (Or.inl rfl) rfl ?_
        refine am_s_if_ne dc189_2.1.2.2 rfl (fun _ => ?_) (fun z => absurd z (by decide))
        refine am_s_iconst am_cc0 dc189_2.2.2.1 ?_
        refine am_s_zreturn dc189_2.2.2.2 rfl (by decide) (am_bkI ?_)
        refine am_s_if_ne dc313_2.1.1.2 rfl (fun z => absurd z (by decide)) (fun _ => ?_)
        refine am_s_iconst am_cc0 dc313_2.1.2.1 ?_
        exact am_s_ireturn dc313_2.1.2.2 rfl ((vi_t (vi_t (vi_f q c1) c2) (Decidable.not_not.mp c3)))
    · refine am_s_iconst am_cc1 dc313_1.1.2.2 ?_
      refine am_s_goto rfl dc313_1.2.1.1 ?_
      refine am_s_iconst am_cc2 dc313_1.2.2.1 ?_
      refine am_s_iconst am_cc1 dc313_1.2.2.2 ?_
      refine am_s_virtual true dc313_2.1.1.1 rfl (by decide) rfl rfl rfl (am_mth_of rfl rfl ?_)
      refine am_s_iload_n rfl dc189_0.1.1.1 ?_
      refine am_s_if_ne dc189_0.1.1.2 rfl (fun _ => ?_) (fun z => absurd z (by decide))
      refine am_s_aload_n rfl dc189_2.1.1 ?_
      refine am_x_getI (x := I 163 0) dc189_2.1.2.1 rfl rfl (Or.inl rfl) rfl ?_
      refine am_s_if_ne dc189_2.1.2.2 rfl (fun c3 => ?_) (fun c3 => ?_)
      · refine am_s_iconst am_cc0 dc189_2.2.2.1 ?_
        refine am_s_zreturn dc189_2.2.2.2 rfl (by decide) (am_bkI ?_)
        refine am_s_if_ne dc313_2.1.1.2 rfl (fun z => absurd z (by decide)) (fun _ => ?_)
        refine am_s_iconst am_cc0 dc313_2.1.2.1 ?_
        exact am_s_ireturn dc313_2.1.2.2 rfl ((vi_f (vi_f (vi_f q c1) c2) c3))
      · refine am_s_iconst am_cc1 dc189_2.2.1.1 ?_
        refine am_s_goto rfl dc189_2.2.1.2 ?_
        refine am_s_zreturn dc189_2.2.2.2 rfl (by decide) (am_bkI ?_)
        refine am_s_if_ne dc313_2.1.1.2 rfl (fun _ => ?_) (fun z => absurd z (by decide))
        refine am_s_iload_n rfl dc313_2.2.1.1 ?_
        refine am_s_aload_n rfl dc313_2.2.1.2 ?_
        refine am_s_iload_n rfl dc313_2.2.2.1 ?_
        refine am_s_iload_n rfl dc313_2.2.2.2 ?_
        exact am_s_virtual true dc313_3.1.1.1 rfl (by decide) rfl rfl rfl ((vi_t (vi_f (vi_f q c1) c2) (Decidable.not_not.mp c3)))
theorem v313_41 {sc : Option (Nat × (Nat → Int32))} {d k n : Nat} {P : am_O → Prop} {I : am_I} {J : am_J} {Pf : am_R} (hp : am_PF Pf) {l1 : Option Value} {l2 : Option Value} {x3 : Int32} {s0 : Int32} {s1 : Int32} (q : (if s1 ≤ s0 then (P (.inl (some (.int (-1))), (am_SH, I, J, Pf), k, n)) else (am_in ((((25 : Int32) * 1) + 1) + x3) 125 = true) ∧ (P (.inl (some (.int (I 183 (Int32.toNatClampNeg ((((25 : Int32) * 1) + 1) + x3))))), (am_SH, I, J, Pf), k, n)))) : am_go sc (d + 1) 313 (41, [some (.ref 163), l1, l2, some (.int x3)], [.int s1, .int s0], (am_SH, I, J, Pf), k, n) P := by
  refine am_s_ic_ge dc313_3.1.1.2 rfl (fun c1 => ?_) (fun c1 => ?_)
  · refine am_s_iconst am_ccm1 dc313_3.2.2.2 ?_
    exact am_s_ireturn dc313_4 rfl ((vi_t q c1))
  · refine am_s_aload_n rfl dc313_3.1.2.1 ?_
    refine am_s_iconst am_cc1 dc313_3.1.2.2 ?_
    refine am_s_iload_n rfl dc313_3.2.1.1 ?_
    refine am_s_virtual true dc313_3.2.1.2 rfl (by decide) rfl rfl rfl (am_mth_of rfl rfl ?_)
    refine am_s_aload_n rfl dc255_0.1.1.1 ?_
    refine am_s_getR (r := 183) dc255_0.1.1.2 rfl rfl rfl (hp _ _ _ rfl) ?_
    refine am_s_bipush am_cb25 dc255_0.1.2.1 ?_
    refine am_s_iload_n rfl dc255_0.1.2.2 ?_
    refine am_s_imul dc255_0.2.1.1 ?_
    refine am_s_iconst am_cc1 dc255_0.2.1.2 ?_
    refine am_s_iadd dc255_0.2.2.1 ?_
    refine am_s_iload_n rfl dc255_0.2.2.2 ?_
    refine am_s_iadd dc255_1.1 ?_
    refine am_x_iaload (x := I 183 (Int32.toNatClampNeg ((((25 : Int32) * 1) + 1) + x3))) dc255_1.2.1 rfl ((vi_f q c1).1) rfl rfl ?_
    refine am_s_ireturn dc255_1.2.2 rfl (am_bkI ?_)
    refine am_s_goto rfl dc313_3.2.2.1 ?_
    exact am_s_ireturn dc313_4 rfl ((vi_f q c1).2)
-- isJust (IIII)Z
theorem v314_0 {sc : Option (Nat × (Nat → Int32))} {d k n : Nat} {P : am_O → Prop} {I : am_I} {J : am_J} {Pf : am_R} (hp : am_PF Pf) {x1 : Int32} {x2 : Int32} {x3 : Int32} {x4 : Int32} (q : (am_in (8 + (3 * x1)) 1040 = true) ∧ (if (I 167 (Int32.toNatClampNeg (8 + (3 * x1)))) = x2 then (am_in ((8 + (3 * x1)) + 1) 1040 = true) ∧ (if (I 167 (Int32.toNatClampNeg ((8 + (3 * x1)) + 1))) = x3 then (am_in ((8 + (3 * x1)) + 2) 1040 = true) ∧ (if (I 167 (Int32.toNatClampNeg ((8 + (3 * x1)) + 2))) = x4 then (P (.inl (some (.int 1)), (am_SH, I, J, Pf), k, n)) else (P (.inl (some (.int 0)), (am_SH, I, J, Pf), k, n))) else (P (.inl (some (.int 0)), (am_SH, I, J, Pf), k, n))) else (P (.inl (some (.int 0)), (am_SH, I, J, Pf), k, n)))) : am_go sc d 314 (0, [some (.ref 163), some (.int x1), some (.int x2), some (.int x3), some (.int x4)], [], (am_SH, I, J, Pf), k, n) P := by
  refine am_s_aload_n rfl dc314_0.1.1.1 ?_
  refine am_s_getR (r := 167) dc314_0.1.1.2 rfl rfl rfl (hp _ _ _ rfl) ?_
  refine am_s_bipush am_cb8 dc314_0.1.2.1 ?_
  refine am_s_iconst am_cc3 dc314_0.1.2.2 ?_
  refine am_s_iload_n rfl dc314_0.2.1.1 ?_
  refine am_s_imul dc314_0.2.1.2 ?_
  refine am_s_iadd dc314_0.2.2.1 ?_
  refine am_x_iaload (x := I 167 (Int32.toNatClampNeg (8 + (3 * x1)))) dc314_0.2.2.2 rfl (q.1) rfl rfl ?_
  refine am_s_iload_n rfl dc314_1.1.1.1 ?_
  refine am_s_ic_ne dc314_1.1.1.2 rfl (fun c1 => ?_) (fun c1 => ?_)
  · refine am_s_iconst am_cc0 dc314_4.2.2.1 ?_
    exact am_s_zreturn dc314_4.2.2.2 rfl (by decide) ((vi_f q.2 c1))
  · refine am_s_aload_n rfl dc314_1.1.2.1 ?_
    refine am_s_getR (r := 167) dc314_1.1.2.2 rfl rfl rfl (hp _ _ _ rfl) ?_
    refine am_s_bipush am_cb8 dc314_1.2.1.1 ?_
    refine am_s_iconst am_cc3 dc314_1.2.1.2 ?_
    refine am_s_iload_n rfl dc314_1.2.2.1 ?_
    refine am_s_imul dc314_1.2.2.2 ?_
    refine am_s_iadd dc314_2.1.1.1 ?_
    refine am_s_iconst am_cc1 dc314_2.1.1.2 ?_
    refine am_s_iadd dc314_2.1.2.1 ?_
    refine am_x_iaload (x := I 167 (Int32.toNatClampNeg ((8 + (3 * x1)) + 1))) dc314_2.1.2.2 rfl ((vi_t q.2 (Decidable.not_not.mp c1)).1) rfl rfl ?_
    refine am_s_iload_n rfl dc314_2.2.1.1 ?_
    refine am_s_ic_ne dc314_2.2.1.2 rfl (fun c2 => ?_) (fun c2 => ?_)
    · refine am_s_iconst am_cc0 dc314_4.2.2.1 ?_
      exact am_s_zreturn dc314_4.2.2.2 rfl (by decide) ((vi_f (vi_t q.2 (Decidable.not_not.mp c1)).2 c2))
    · refine am_s_aload_n rfl dc314_2.2.2.1 ?_
      refine am_s_getR (r := 167) dc314_2.2.2.2 rfl rfl rfl (hp _ _ _ rfl) ?_
      refine am_s_bipush am_cb8 dc314_3.1.1.1 ?_
      refine am_s_iconst am_cc3 dc314_3.1.1.2 ?_
      refine am_s_iload_n rfl dc314_3.1.2.1 ?_
      refine am_s_imul dc314_3.1.2.2 ?_
      refine am_s_iadd dc314_3.2.1.1 ?_
      refine am_s_iconst am_cc2 dc314_3.2.1.2 ?_
      refine am_s_iadd dc314_3.2.2.1 ?_
      refine am_x_iaload (x := I 167 (Int32.toNatClampNeg ((8 + (3 * x1)) + 2))) dc314_3.2.2.2 rfl ((vi_t (vi_t q.2 (Decidable.not_not.mp c1)).2 (Decidable.not_not.mp c2)).1) rfl rfl ?_
      refine am_s_iload rfl dc314_4.1.1 ?_
      refine am_s_ic_ne dc314_4.1.2.1 rfl (fun c3 => ?_) (fun c3 => ?_)
      · refine am_s_iconst am_cc0 dc314_4.2.2.1 ?_
        exact am_s_zreturn dc314_4.2.2.2 rfl (by decide) ((vi_f (vi_t (vi_t q.2 (Decidable.not_not.mp c1)).2 (Decidable.not_not.mp c2)).2 c3))
      · refine am_s_iconst am_cc1 dc314_4.1.2.2 ?_
        refine am_s_goto rfl dc314_4.2.1 ?_
        exact am_s_zreturn dc314_4.2.2.2 rfl (by decide) ((vi_t (vi_t (vi_t q.2 (Decidable.not_not.mp c1)).2 (Decidable.not_not.mp c2)).2 (Decidable.not_not.mp c3)))
-- fits (III)I
theorem v315_0 {sc : Option (Nat × (Nat → Int32))} {d k n : Nat} {P : am_O → Prop} {I : am_I} {J : am_J} {Pf : am_R} (hp : am_PF Pf) {x1 : Int32} {x2 : Int32} {x3 : Int32} {l4 : Option Value} {l5 : Option Value} {l6 : Option Value} {l7 : Option Value} {l8 : Option Value} {l9 : Option Value} {l10 : Option Value} (q : (if x2 < 0 then (P (.inl (some (.int 0)), (am_SH, am_u (am_u (am_u I 163 0 0) 163 0 1) 164 0 ((I 164 0) + 1), J, Pf), k, n)) else (if ((I 180 0) - 1) < x2 then (P (.inl (some (.int 0)), (am_SH, am_u (am_u (am_u I 163 0 0) 163 0 1) 164 0 ((I 164 0) + 1), J, Pf), k, n)) else (if x1 < 0 then (P (.inl (some (.int 0)), (am_SH, am_u (am_u (am_u I 163 0 0) 163 0 2) 164 1 ((I 164 1) + 1), J, Pf), k, n)) else (if 7 < x1 then (P (.inl (some (.int 0)), (am_SH, am_u (am_u (am_u I 163 0 0) 163 0 2) 164 1 ((I 164 1) + 1), J, Pf), k, n)) else (if x3 < 0 then (P (.inl (some (.int 0)), (am_SH, am_u (am_u (am_u I 163 0 0) 163 0 2) 164 1 ((I 164 1) + 1), J, Pf), k, n)) else (if 2 < x3 then (P (.inl (some (.int 0)), (am_SH, am_u (am_u (am_u I 163 0 0) 163 0 2) 164 1 ((I 164 1) + 1), J, Pf), k, n)) else (am_go sc (d + 1) 315 (80, [some (.ref 163), some (.int x1), some (.int x2), some (.int x3), some (.int 0), some (.int (-1)), some (.int 0), some (.int 0), some (.int 0), some (.int 0), l10], [], (am_SH, am_u I 163 0 0, J, Pf), k, n) P)))))))) : am_go sc (d + 1) 315 (0, [some (.ref 163), some (.int x1), some (.int x2), some (.int x3), l4, l5, l6, l7, l8, l9, l10], [], (am_SH, I, J, Pf), k, n) P := by
  refine am_s_aload_n rfl dc315_0.1.1.1 ?_
  refine am_s_iconst am_cc0 dc315_0.1.1.2 ?_
  refine am_s_putI dc315_0.1.2.1 rfl rfl rfl rfl ?_
  refine am_s_aload_n rfl dc315_0.1.2.2 ?_
  refine am_s_iload_n rfl dc315_0.2.1.1 ?_
  refine am_s_iconst am_cc0 dc315_0.2.1.2 ?_
  refine am_s_aload_n rfl dc315_0.2.2.1 ?_
  refine am_s_getR (r := 180) dc315_0.2.2.2 rfl rfl rfl (hp _ _ _ rfl) ?_
  refine am_s_iconst am_cc0 dc315_1.1.1.1 ?_
  refine am_x_iaload (x := I 180 0) dc315_1.1.1.2 rfl (by decide +kernel) am_cN0 rfl ?_
  refine am_s_iconst am_cc1 dc315_1.1.2.1 ?_
  refine am_s_isub dc315_1.1.2.2 ?_
  refine am_s_static dc315_1.2.1.1 rfl rfl rfl (am_mth_of rfl rfl ?_)
  refine am_s_iload_n rfl dc190_0.1.1.1 ?_
  refine am_s_iload_n rfl dc190_0.1.1.2 ?_
  refine am_s_ic_lt dc190_0.1.2.1 rfl (fun c1 => ?_) (fun c1 => ?_)
  · refine am_s_iconst am_cc0 dc190_1.1 ?_
    refine am_s_zreturn dc190_1.2 rfl (by decide) (am_bkI ?_)
    refine am_s_iconst am_cc1 dc315_1.2.1.2 ?_
    refine am_s_iconst am_cc0 dc315_1.2.2.1 ?_
    refine am_s_virtual true dc315_1.2.2.2 rfl (by decide) rfl rfl rfl (am_mth_of rfl rfl ?_)
    refine am_s_iload_n rfl dc189_0.1.1.1 ?_
    refine am_s_if_ne dc189_0.1.1.2 rfl (fun z => absurd z (by decide)) (fun _ => ?_)
    refine am_s_aload_n rfl dc189_0.1.2.1 ?_
    refine am_x_getI (x := 0) dc189_0.1.2.2 rfl rfl (Or.inl rfl) rfl ?_
    refine am_s_if_ne dc189_0.2.1.1 rfl (fun z => absurd z (by decide)) (fun _ => ?_)
    refine am_s_aload_n rfl dc189_0.2.1.2 ?_
    refine am_s_iload_n rfl dc189_0.2.2.1 ?_
    refine am_s_putI dc189_0.2.2.2 rfl rfl rfl rfl ?_
    refine am_s_aload_n rfl dc189_1.1.1.1 ?_
    refine am_s_getR (r := 164) dc189_1.1.1.2 rfl rfl rfl (hp _ _ _ rfl) ?_
    refine am_s_iload_n rfl dc189_1.1.2.1 ?_
    refine am_s_dup2 rfl rfl dc189_1.1.2.2 ?_
    refine am_x_iaload (x := I 164 0) dc189_1.2.1.1 rfl (by decide +kernel) am_cN0 rfl ?_
    refine am_s_iconst am_cc1 dc189_1.2.1.2 ?_
    refine am_s_iadd dc189_1.2.2.1 ?_
    refine am_s_iastore dc189_1.2.2.2 rfl (by decide +kernel) am_cN0 ?_
    refine am_s_aload_n rfl dc189_2.1.1 ?_
    refine am_x_getI (x := 1) dc189_2.1.2.1 rfl rfl (Or.inl rfl) rfl ?_
    refine am_s_if_ne dc189_2.1.2.2 rfl (fun _ => ?_) (fun z => absurd z (by decide))
    refine am_s_iconst am_cc0 dc189_2.2.2.1 ?_
    refine am_s_zreturn dc189_2.2.2.2 rfl (by decide) (am_bkI ?_)
    refine am_s_if_eq dc315_2.1.1.1 rfl (fun _ => ?_) (fun z => absurd z (by decide))
    refine am_s_iconst am_cc0 dc315_4.1.2.2 ?_
    exact am_s_ireturn dc315_4.2.1.1 rfl ((vi_t q c1))
  · refine am_s_iload_n rfl dc190_0.1.2.2 ?_
    refine am_s_iload_n rfl dc190_0.2.1.1 ?_
    refine am_s_ic_gt dc190_0.2.1.2 rfl (fun c2 => ?_) (fun c2 => ?_)
    · refine am_s_iconst am_cc0 dc190_1.1 ?_
      refine am_s_zreturn dc190_1.2 rfl (by decide) (am_bkI ?_)
      refine am_s_iconst am_cc1 dc315_1.2.1.2 ?_
      refine am_s_iconst am_cc0 dc315_1.2.2.1 ?_
      refine am_s_virtual true dc315_1.2.2.2 rfl (by decide) rfl rfl rfl (am_mth_of rfl rfl ?_)
      refine am_s_iload_n rfl dc189_0.1.1.1 ?_
      refine am_s_if_ne dc189_0.1.1.2 rfl (fun z => absurd z (by decide)) (fun _ => ?_)
      refine am_s_aload_n rfl dc189_0.1.2.1 ?_
      refine am_x_getI (x := 0) dc189_0.1.2.2 rfl rfl (Or.inl rfl) rfl ?_
      refine am_s_if_ne dc189_0.2.1.1 rfl (fun z => absurd z (by decide)) (fun _ => ?_)
      refine am_s_aload_n rfl dc189_0.2.1.2 ?_
      refine am_s_iload_n rfl dc189_0.2.2.1 ?_
      refine am_s_putI dc189_0.2.2.2 rfl rfl rfl rfl ?_
      refine am_s_aload_n rfl dc189_1.1.1.1 ?_
      refine am_s_getR (r := 164) dc189_1.1.1.2 rfl rfl rfl (hp _ _ _ rfl) ?_
      refine am_s_iload_n rfl dc189_1.1.2.1 ?_
      refine am_s_dup2 rfl rfl dc189_1.1.2.2 ?_
      refine am_x_iaload (x := I 164 0) dc189_1.2.1.1 rfl (by decide +kernel) am_cN0 rfl ?_
      refine am_s_iconst am_cc1 dc189_1.2.1.2 ?_
      refine am_s_iadd dc189_1.2.2.1 ?_
      refine am_s_iastore dc189_1.2.2.2 rfl (by decide +kernel) am_cN0 ?_
      refine am_s_aload_n rfl dc189_2.1.1 ?_
      refine am_x_getI (x := 1) dc189_2.1.2.1 rfl rfl (Or.inl rfl) rfl ?_
      refine am_s_if_ne dc189_2.1.2.2 rfl (fun _ => ?_) (fun z => absurd z (by decide))
      refine am_s_iconst am_cc0 dc189_2.2.2.1 ?_
      refine am_s_zreturn dc189_2.2.2.2 rfl (by decide) (am_bkI ?_)
      refine am_s_if_eq dc315_2.1.1.1 rfl (fun _ => ?_) (fun z => absurd z (by decide))
      refine am_s_iconst am_cc0 dc315_4.1.2.2 ?_
      exact am_s_ireturn dc315_4.2.1.1 rfl ((vi_t (vi_f q c1) c2))
    · refine am_s_iconst am_cc1 dc190_0.2.2.1 ?_
      refine am_s_goto rfl dc190_0.2.2.2 ?_
      refine am_s_zreturn dc190_1.2 rfl (by decide) (am_bkI ?_)
      refine am_s_iconst am_cc1 dc315_1.2.1.2 ?_
      refine am_s_iconst am_cc0 dc315_1.2.2.1 ?_
      refine am_s_virtual true dc315_1.2.2.2 rfl (by decide) rfl rfl rfl (am_mth_of rfl rfl ?_)
      refine am_s_iload_n rfl dc189_0.1.1.1 ?_
      refine am_s_if_ne dc189_0.1.1.2 rfl (fun _ => ?_) (fun z => absurd z (by decide))
      refine am_s_aload_n rfl dc189_2.1.1 ?_
      refine am_x_getI (x := 0) dc189_2.1.2.1 rfl rfl (Or.inl rfl) rfl ?_
      refine am_s_if_ne dc189_2.1.2.2 rfl (fun z => absurd z (by decide)) (fun _ => ?_)
      refine am_s_iconst am_cc1 dc189_2.2.1.1 ?_
      refine am_s_goto rfl dc189_2.2.1.2 ?_
      refine am_s_zreturn dc189_2.2.2.2 rfl (by decide) (am_bkI ?_)
      refine am_s_if_eq dc315_2.1.1.1 rfl (fun z => absurd z (by decide)) (fun _ => ?_)
      refine am_s_aload_n rfl dc315_2.1.1.2 ?_
      refine am_s_iload_n rfl dc315_2.1.2.1 ?_
      refine am_s_iconst am_cc0 dc315_2.1.2.2 ?_
      refine am_s_bipush am_cb7 dc315_2.2.1.1 ?_
      refine am_s_static dc315_2.2.1.2 rfl rfl rfl (am_mth_of rfl rfl ?_)
      refine am_s_iload_n rfl dc190_0.1.1.1 ?_
      refine am_s_iload_n rfl dc190_0.1.1.2 ?_
      refine am_s_ic_lt dc190_0.1.2.1 rfl (fun c3 => ?_) (fun c3 => ?_)
      · refine am_s_iconst am_cc0 dc190_1.1 ?_
        refine am_s_zreturn dc190_1.2 rfl (by decide) (am_bkI ?_)
        refine am_s_if_eq dc315_2.2.2.1 rfl (fun _ => ?_) (fun z => absurd z (by decide))
        refine am_s_iconst am_cc0 dc315_3.2.2.1 ?_
        refine am_s_iconst am_cc2 dc315_3.2.2.2 ?_
        refine am_s_iconst am_cc1 dc315_4.1.1.1 ?_
        refine am_s_virtual true dc315_4.1.1.2 rfl (by decide) rfl rfl rfl (am_mth_of rfl rfl ?_)
        refine am_s_iload_n rfl dc189_0.1.1.1 ?_
        refine am_s_if_ne dc189_0.1.1.2 rfl (fun z => absurd z (by decide)) (fun _ => ?_)
        refine am_s_aload_n rfl dc189_0.1.2.1 ?_
        refine am_x_getI (x := 0) dc189_0.1.2.2 rfl rfl (Or.inl rfl) rfl ?_
        refine am_s_if_ne dc189_0.2.1.1 rfl (fun z => absurd z (by decide)) (fun _ => ?_)
        refine am_s_aload_n rfl dc189_0.2.1.2 ?_
        refine am_s_iload_n rfl dc189_0.2.2.1 ?_
        refine am_s_putI dc189_0.2.2.2 rfl rfl rfl rfl ?_
        refine am_s_aload_n rfl dc189_1.1.1.1 ?_
        refine am_s_getR (r := 164) dc189_1.1.1.2 rfl rfl rfl (hp _ _ _ rfl) ?_
        refine am_s_iload_n rfl dc189_1.1.2.1 ?_
        refine am_s_dup2 rfl rfl dc189_1.1.2.2 ?_
        refine am_x_iaload (x := I 164 1) dc189_1.2.1.1 rfl (by decide +kernel) am_cN1 rfl ?_
        refine am_s_iconst am_cc1 dc189_1.2.1.2 ?_
        refine am_s_iadd dc189_1.2.2.1 ?_
        refine am_s_iastore dc189_1.2.2.2 rfl (by decide +kernel) am_cN1 ?_
        refine am_s_aload_n rfl dc189_2.1.1 ?_
        refine am_x_getI (x := 2) dc189_2.1.2.1 rfl rfl (Or.inl rfl) rfl ?_
        refine am_s_if_ne dc189_2.1.2.2 rfl (fun _ => ?_) (fun z => absurd z (by decide))
        refine am_s_iconst am_cc0 dc189_2.2.2.1 ?_
        refine am_s_zreturn dc189_2.2.2.2 rfl (by decide) (am_bkI ?_)
        refine am_s_if_ne dc315_4.1.2.1 rfl (fun z => absurd z (by decide)) (fun _ => ?_)
        refine am_s_iconst am_cc0 dc315_4.1.2.2 ?_
        exact am_s_ireturn dc315_4.2.1.1 rfl ((vi_t (vi_f (vi_f q c1) c2) c3))
      · refine am_s_iload_n rfl dc190_0.1.2.2 ?_
        refine am_s_iload_n rfl dc190_0.2.1.1 ?_
        refine am_s_ic_gt dc190_0.2.1.2 rfl (fun c4 => ?_) (fun c4 => ?_)
        · refine am_s_iconst am_cc0 dc190_1.1 ?_
          refine am_s_zreturn dc190_1.2 rfl (by decide) (am_bkI ?_)
          refine am_s_if_eq dc315_2.2.2.1 rfl (fun _ => ?_) (fun z => absurd z (by decide))
          refine am_s_iconst am_cc0 dc315_3.2.2.1 ?_
          refine am_s_iconst am_cc2 dc315_3.2.2.2 ?_
          refine am_s_iconst am_cc1 dc315_4.1.1.1 ?_
          refine am_s_virtual true dc315_4.1.1.2 rfl (by decide) rfl rfl rfl (am_mth_of rfl rfl ?_)
          refine am_s_iload_n rfl dc189_0.1.1.1 ?_
          refine am_s_if_ne dc189_0.1.1.2 rfl (fun z => absurd z (by decide)) (fun _ => ?_)
          refine am_s_aload_n rfl dc189_0.1.2.1 ?_
          refine am_x_getI (x := 0) dc189_0.1.2.2 rfl rfl (Or.inl rfl) rfl ?_
          refine am_s_if_ne dc189_0.2.1.1 rfl (fun z => absurd z (by decide)) (fun _ => ?_)
          refine am_s_aload_n rfl dc189_0.2.1.2 ?_
          refine am_s_iload_n rfl dc189_0.2.2.1 ?_
          refine am_s_putI dc189_0.2.2.2 rfl rfl rfl rfl ?_
          refine am_s_aload_n rfl dc189_1.1.1.1 ?_
          refine am_s_getR (r := 164) dc189_1.1.1.2 rfl rfl rfl (hp _ _ _ rfl) ?_
          refine am_s_iload_n rfl dc189_1.1.2.1 ?_
          refine am_s_dup2 rfl rfl dc189_1.1.2.2 ?_
          refine am_x_iaload (x := I 164 1) dc189_1.2.1.1 rfl (by decide +kernel) am_cN1 rfl ?_
          refine am_s_iconst am_cc1 dc189_1.2.1.2 ?_
          refine am_s_iadd dc189_1.2.2.1 ?_
          refine am_s_iastore dc189_1.2.2.2 rfl (by decide +kernel) am_cN1 ?_
          refine am_s_aload_n rfl dc189_2.1.1 ?_
          refine am_x_getI (x := 2) dc189_2.1.2.1 rfl rfl (Or.inl rfl) rfl ?_
          refine am_s_if_ne dc189_2.1.2.2 rfl (fun _ => ?_) (fun z => absurd z (by decide))
          refine am_s_iconst am_cc0 dc189_2.2.2.1 ?_
          refine am_s_zreturn dc189_2.2.2.2 rfl (by decide) (am_bkI ?_)
          refine am_s_if_ne dc315_4.1.2.1 rfl (fun z => absurd z (by decide)) (fun _ => ?_)
          refine am_s_iconst am_cc0 dc315_4.1.2.2 ?_
          exact am_s_ireturn dc315_4.2.1.1 rfl ((vi_t (vi_f (vi_f (vi_f q c1) c2) c3) c4))
        · refine am_s_iconst am_cc1 dc190_0.2.2.1 ?_
          refine am_s_goto rfl dc190_0.2.2.2 ?_
          refine am_s_zreturn dc190_1.2 rfl (by decide) (am_bkI ?_)
          refine am_s_if_eq dc315_2.2.2.1 rfl (fun z => absurd z (by decide)) (fun _ => ?_)
          refine am_s_iload_n rfl dc315_2.2.2.2 ?_
          refine am_s_iconst am_cc0 dc315_3.1.1.1 ?_
          refine am_s_iconst am_cc2 dc315_3.1.1.2 ?_
          refine am_s_static dc315_3.1.2.1 rfl rfl rfl (am_mth_of rfl rfl ?_)
          refine am_s_iload_n rfl dc190_0.1.1.1 ?_
          refine am_s_iload_n rfl dc190_0.1.1.2 ?_
          refine am_s_ic_lt dc190_0.1.2.1 rfl (fun c5 => ?_) (fun c5 => ?_)
          · refine am_s_iconst am_cc0 dc190_1.1 ?_
            refine am_s_zreturn dc190_1.2 rfl (by decide) (am_bkI ?_)
            refine am_s_if_eq dc315_3.1.2.2 rfl (fun _ => ?_) (fun z => absurd z (by decide))
            refine am_s_iconst am_cc0 dc315_3.2.2.1 ?_
            refine am_s_iconst am_cc2 dc315_3.2.2.2 ?_
            refine am_s_iconst am_cc1 dc315_4.1.1.1 ?_
            refine am_s_virtual true dc315_4.1.1.2 rfl (by decide) rfl rfl rfl (am_mth_of rfl rfl ?_)
            refine am_s_iload_n rfl dc189_0.1.1.1 ?_
            refine am_s_if_ne dc189_0.1.1.2 rfl (fun z => absurd z (by decide)) (fun _ => ?_)
            refine am_s_aload_n rfl dc189_0.1.2.1 ?_
            refine am_x_getI (x := 0) dc189_0.1.2.2 rfl rfl (Or.inl rfl) rfl ?_
            refine am_s_if_ne dc189_0.2.1.1 rfl (fun z => absurd z (by decide)) (fun _ => ?_)
            refine am_s_aload_n rfl dc189_0.2.1.2 ?_
            refine am_s_iload_n rfl dc189_0.2.2.1 ?_
            refine am_s_putI dc189_0.2.2.2 rfl rfl rfl rfl ?_
            refine am_s_aload_n rfl dc189_1.1.1.1 ?_
            refine am_s_getR (r := 164) dc189_1.1.1.2 rfl rfl rfl (hp _ _ _ rfl) ?_
            refine am_s_iload_n rfl dc189_1.1.2.1 ?_
            refine am_s_dup2 rfl rfl dc189_1.1.2.2 ?_
            refine am_x_iaload (x := I 164 1) dc189_1.2.1.1 rfl (by decide +kernel) am_cN1 rfl ?_
            refine am_s_iconst am_cc1 dc189_1.2.1.2 ?_
            refine am_s_iadd dc189_1.2.2.1 ?_
            refine am_s_iastore dc189_1.2.2.2 rfl (by decide +kernel) am_cN1 ?_
            refine am_s_aload_n rfl dc189_2.1.1 ?_
            refine am_x_getI (x := 2) dc189_2.1.2.1 rfl rfl (Or.inl rfl) rfl ?_
            refine am_s_if_ne dc189_2.1.2.2 rfl (fun _ => ?_) (fun z => absurd z (by decide))
            refine am_s_iconst am_cc0 dc189_2.2.2.1 ?_
            refine am_s_zreturn dc189_2.2.2.2 rfl (by decide) (am_bkI ?_)
            refine am_s_if_ne dc315_4.1.2.1 rfl (fun z => absurd z (by decide)) (fun _ => ?_)
            refine am_s_iconst am_cc0 dc315_4.1.2.2 ?_
            exact am_s_ireturn dc315_4.2.1.1 rfl ((vi_t (vi_f (vi_f (vi_f (vi_f q c1) c2) c3) c4) c5))
          · refine am_s_iload_n rfl dc190_0.1.2.2 ?_
            refine am_s_iload_n rfl dc190_0.2.1.1 ?_
            refine am_s_ic_gt dc190_0.2.1.2 rfl (fun c6 => ?_) (fun c6 => ?_)
            · refine am_s_iconst am_cc0 dc190_1.1 ?_
              refine am_s_zreturn dc190_1.2 rfl (by decide) (am_bkI ?_)
              refine am_s_if_eq dc315_3.1.2.2 rfl (fun _ => ?_) (fun z => absurd z (by decide))
              refine am_s_iconst am_cc0 dc315_3.2.2.1 ?_
              refine am_s_iconst am_cc2 dc315_3.2.2.2 ?_
              refine am_s_iconst am_cc1 dc315_4.1.1.1 ?_
              refine am_s_virtual true dc315_4.1.1.2 rfl (by decide) rfl rfl rfl (am_mth_of rfl rfl ?_)
              refine am_s_iload_n rfl dc189_0.1.1.1 ?_
              refine am_s_if_ne dc189_0.1.1.2 rfl (fun z => absurd z (by decide)) (fun _ => ?_)
              refine am_s_aload_n rfl dc189_0.1.2.1 ?_
              refine am_x_getI (x := 0) dc189_0.1.2.2 rfl rfl (Or.inl rfl) rfl ?_
              refine am_s_if_ne dc189_0.2.1.1 rfl (fun z => absurd z (by decide)) (fun _ => ?_)
              refine am_s_aload_n rfl dc189_0.2.1.2 ?_
              refine am_s_iload_n rfl dc189_0.2.2.1 ?_
              refine am_s_putI dc189_0.2.2.2 rfl rfl rfl rfl ?_
              refine am_s_aload_n rfl dc189_1.1.1.1 ?_
              refine am_s_getR (r := 164) dc189_1.1.1.2 rfl rfl rfl (hp _ _ _ rfl) ?_
              refine am_s_iload_n rfl dc189_1.1.2.1 ?_
              refine am_s_dup2 rfl rfl dc189_1.1.2.2 ?_
              refine am_x_iaload (x := I 164 1) dc189_1.2.1.1 rfl (by decide +kernel) am_cN1 rfl ?_
              refine am_s_iconst am_cc1 dc189_1.2.1.2 ?_
              refine am_s_iadd dc189_1.2.2.1 ?_
              refine am_s_iastore dc189_1.2.2.2 rfl (by decide +kernel) am_cN1 ?_
              refine am_s_aload_n rfl dc189_2.1.1 ?_
              refine am_x_getI (x := 2) dc189_2.1.2.1 rfl rfl (Or.inl rfl) rfl ?_
              refine am_s_if_ne dc189_2.1.2.2 rfl (fun _ => ?_) (fun z => absurd z (by decide))
              refine am_s_iconst am_cc0 dc189_2.2.2.1 ?_
              refine am_s_zreturn dc189_2.2.2.2 rfl (by decide) (am_bkI ?_)
              refine am_s_if_ne dc315_4.1.2.1 rfl (fun z => absurd z (by decide)) (fun _ => ?_)
              refine am_s_iconst am_cc0 dc315_4.1.2.2 ?_
              exact am_s_ireturn dc315_4.2.1.1 rfl ((vi_t (vi_f (vi_f (vi_f (vi_f (vi_f q c1) c2) c3) c4) c5) c6))
            · refine am_s_iconst am_cc1 dc190_0.2.2.1 ?_
              refine am_s_goto rfl dc190_0.2.2.2 ?_
              refine am_s_zreturn dc190_1.2 rfl (by decide) (am_bkI ?_)
              refine am_s_if_eq dc315_3.1.2.2 rfl (fun z => absurd z (by decide)) (fun _ => ?_)
              refine am_s_iconst am_cc1 dc315_3.2.1.1 ?_
              refine am_s_goto rfl dc315_3.2.1.2 ?_
              refine am_s_iconst am_cc2 dc315_3.2.2.2 ?_
              refine am_s_iconst am_cc1 dc315_4.1.1.1 ?_
              refine am_s_virtual true dc315_4.1.1.2 rfl (by decide) rfl rfl rfl (am_mth_of rfl rfl ?_)
              refine am_s_iload_n rfl dc189_0.1.1.1 ?_
              refine am_s_if_ne dc189_0.1.1.2 rfl (fun _ => ?_) (fun z => absurd z (by decide))
              refine am_s_aload_n rfl dc189_2.1.1 ?_
              refine am_x_getI (x := 0) dc189_2.1.2.1 rfl rfl (Or.inl rfl) rfl ?_
              refine am_s_if_ne dc189_2.1.2.2 rfl (fun z => absurd z (by decide)) (fun _ => ?_)
              refine am_s_iconst am_cc1 dc189_2.2.1.1 ?_
              refine am_s_goto rfl dc189_2.2.1.2 ?_
              refine am_s_zreturn dc189_2.2.2.2 rfl (by decide) (am_bkI ?_)
              refine am_s_if_ne dc315_4.1.2.1 rfl (fun _ => ?_) (fun z => absurd z (by decide))
              refine am_s_iconst am_cc0 dc315_4.2.1.2 ?_
              refine am_s_istore (ls' := [some (.ref 163), some (.int x1), some (.int x2), some (.int x3), some (.int 0), l5, l6, l7, l8, l9, l10]) rfl rfl dc315_4.2.2.1 ?_
              refine am_s_iconst am_ccm1 dc315_4.2.2.2 ?_
              refine am_s_istore (ls' := [some (.ref 163), some (.int x1), some (.int x2), some (.int x3), some (.int 0), some (.int (-1)), l6, l7, l8, l9, l10]) rfl rfl dc315_5.1.1.1 ?_
              refine am_s_iconst am_cc0 dc315_5.1.1.2 ?_
              refine am_s_istore (ls' := [some (.ref 163), some (.int x1), some (.int x2), some (.int x3), some (.int 0), some (.int (-1)), some (.int 0), l7, l8, l9, l10]) rfl rfl dc315_5.1.2.1 ?_
              refine am_s_iconst am_cc0 dc315_5.1.2.2 ?_
              refine am_s_istore (ls' := [some (.ref 163), some (.int x1), some (.int x2), some (.int x3), some (.int 0), some (.int (-1)), some (.int 0), some (.int 0), l8, l9, l10]) rfl rfl dc315_5.2.1.1 ?_
              refine am_s_iconst am_cc0 dc315_5.2.1.2 ?_
              refine am_s_istore (ls' := [some (.ref 163), some (.int x1), some (.int x2), some (.int x3), some (.int 0), some (.int (-1)), some (.int 0), some (.int 0), some (.int 0), l9, l10]) rfl rfl dc315_5.2.2.1 ?_
              refine am_s_iconst am_cc0 dc315_5.2.2.2 ?_
              refine am_s_istore (ls' := [some (.ref 163), some (.int x1), some (.int x2), some (.int x3), some (.int 0), some (.int (-1)), some (.int 0), some (.int 0), some (.int 0), some (.int 0), l10]) rfl rfl dc315_6.1.1.1 ?_
              exact (vi_f (vi_f (vi_f (vi_f (vi_f (vi_f q c1) c2) c3) c4) c5) c6)
theorem v315_80 {sc : Option (Nat × (Nat → Int32))} {d k n : Nat} {P : am_O → Prop} {I : am_I} {J : am_J} {Pf : am_R} (hp : am_PF Pf) {x1 : Int32} {x2 : Int32} {x3 : Int32} {x4 : Int32} {x5 : Int32} {x6 : Int32} {x7 : Int32} {x8 : Int32} {x9 : Int32} {l10 : Option Value} (q : (if 95 ≤ x9 then (am_go sc d 315 (231, [some (.ref 163), some (.int x1), some (.int x2), some (.int x3), some (.int x4), some (.int x5), some (.int x6), some (.int x7), some (.int x8), some (.int (-1)), some (.int ((I 167 0) - 1))], [], (am_SH, I, J, Pf), k, n) P) else (am_mth d 273 [.ref 163] (am_SH, I, J, Pf) (am_af sc d 315 88 [some (.ref 163), some (.int x1), some (.int x2), some (.int x3), some (.int x4), some (.int x5), some (.int x6), some (.int x7), some (.int x8), some (.int x9), l10] [.ref 163] [] (am_SH, I, J, Pf) k n true P)))) : am_go sc d 315 (80, [some (.ref 163), some (.int x1), some (.int x2), some (.int x3), some (.int x4), some (.int x5), some (.int x6), some (.int x7), some (.int x8), some (.int x9), l10], [], (am_SH, I, J, Pf), k, n) P := by
  refine am_s_iload rfl dc315_6.1.1.2 ?_
  refine am_s_bipush am_cb95 dc315_6.1.2.1 ?_
  refine am_s_ic_ge dc315_6.1.2.2 rfl (fun c1 => ?_) (fun c1 => ?_)
  · refine am_s_iconst am_ccm1 dc315_15.1.2.2 ?_
    refine am_s_istore (ls' := [some (.ref 163), some (.int x1), some (.int x2), some (.int x3), some (.int x4), some (.int x5), some (.int x6), some (.int x7), some (.int x8), some (.int (-1)), l10]) rfl rfl dc315_15.2.1.1 ?_
    refine am_s_aload_n rfl dc315_15.2.1.2 ?_
    refine am_s_getR (r := 167) dc315_15.2.2.1 rfl rfl rfl (hp _ _ _ rfl) ?_
    refine am_s_iconst am_cc0 dc315_15.2.2.2 ?_
    refine am_x_iaload (x := I 167 0) dc315_16.1.1.1 rfl (by decide +kernel) am_cN0 rfl ?_
    refine am_s_iconst am_cc1 dc315_16.1.1.2 ?_
    refine am_s_isub dc315_16.1.2.1 ?_
    refine am_s_istore (ls' := [some (.ref 163), some (.int x1), some (.int x2), some (.int x3), some (.int x4), some (.int x5), some (.int x6), some (.int x7), some (.int x8), some (.int (-1)), some (.int ((I 167 0) - 1))]) rfl rfl dc315_16.1.2.2 ?_
    exact (vi_t q c1)
  · refine am_s_aload_n rfl dc315_6.2.1.1 ?_
    exact am_s_virtual true dc315_6.2.1.2 rfl (by decide) rfl rfl rfl ((vi_f q c1))
theorem v315_231 {sc : Option (Nat × (Nat → Int32))} {d k n : Nat} {P : am_O → Prop} {I : am_I} {J : am_J} {Pf : am_R} (hp : am_PF Pf) {l1 : Option Value} {l2 : Option Value} {x3 : Int32} {x4 : Int32} {x5 : Int32} {x6 : Int32} {x7 : Int32} {x8 : Int32} {x9 : Int32} {x10 : Int32} (q : (if x10 < 0 then (if x3 = 0 then (P (.inl (some (.int x4)), (am_SH, I, J, Pf), k, n)) else (if x3 = 1 then (P (.inl (some (.int x5)), (am_SH, I, J, Pf), k, n)) else (P (.inl (some (.int x9)), (am_SH, I, J, Pf), k, n)))) else (if x4 ≤ 0 then (am_go sc d 315 (231, [some (.ref 163), l1, l2, some (.int x3), some (.int x4), some (.int x5), some (.int x6), some (.int x7), some (.int x8), some (.int x9), some (.int (x10 + (-1)))], [], (am_SH, I, J, Pf), k, n) P) else (am_mth d 314 [.ref 163, .int x10, .int x6, .int x7, .int x8] (am_SH, I, J, Pf) (am_af sc d 315 250 [some (.ref 163), l1, l2, some (.int x3), some (.int x4), some (.int x5), some (.int x6), some (.int x7), some (.int x8), some (.int x9), some (.int x10)] [.int x8, .int x7, .int x6, .int x10, .ref 163] [] (am_SH, I, J, Pf) k n true P))))) : am_go sc d 315 (231, [some (.ref 163), l1, l2, some (.int x3), some (.int x4), some (.int x5), some (.int x6), some (.int x7), some (.int x8), some (.int x9), some (.int x10)], [], (am_SH, I, J, Pf), k, n) P := by
  refine am_s_iload rfl dc315_16.2.1.1 ?_
  refine am_s_if_lt dc315_16.2.1.2 rfl (fun c1 => ?_) (fun c1 => ?_)
  · refine am_s_iload_n rfl dc315_18.2.1.2 ?_
    refine am_s_if_ne dc315_18.2.2.1 rfl (fun c2 => ?_) (fun c2 => ?_)
    · refine am_s_iload_n rfl dc315_19.1.1.2 ?_
      refine am_s_iconst am_cc1 dc315_19.1.2.1 ?_
      refine am_s_ic_ne dc315_19.1.2.2 rfl (fun c3 => ?_) (fun c3 => ?_)
      · refine am_s_iload rfl dc315_19.2.2.1 ?_
        exact am_s_ireturn dc315_19.2.2.2 rfl ((vi_f (vi_f (vi_t q c1) c2) c3))
      · refine am_s_iload rfl dc315_19.2.1.1 ?_
        refine am_s_goto rfl dc315_19.2.1.2 ?_
        exact am_s_ireturn dc315_19.2.2.2 rfl ((vi_t (vi_f (vi_t q c1) c2) (Decidable.not_not.mp c3)))
    · refine am_s_iload rfl dc315_18.2.2.2 ?_
      refine am_s_goto rfl dc315_19.1.1.1 ?_
      exact am_s_ireturn dc315_19.2.2.2 rfl ((vi_t (vi_t q c1) (Decidable.not_not.mp c2)))
  · refine am_s_iload rfl dc315_16.2.2.1 ?_
    refine am_s_if_le dc315_16.2.2.2 rfl (fun c2 => ?_) (fun c2 => ?_)
    · refine am_s_iload rfl dc315_18.1.1.2 ?_
      refine am_s_istore (ls' := [some (.ref 163), l1, l2, some (.int x3), some (.int x4), some (.int x5), some (.int x6), some (.int x7), some (.int x8), some (.int x9), some (.int x10)]) rfl rfl dc315_18.1.2.1 ?_
      refine am_s_iinc (ls' := [some (.ref 163), l1, l2, some (.int x3), some (.int x4), some (.int x5), some (.int x6), some (.int x7), some (.int x8), some (.int x9), some (.int (x10 + (-1)))]) am_ccm1 rfl rfl dc315_18.1.2.2 ?_
      refine am_s_goto rfl dc315_18.2.1.1 ?_
      exact (vi_t (vi_f q c1) c2)
    · refine am_s_aload_n rfl dc315_17.1.1.1 ?_
      refine am_s_iload rfl dc315_17.1.1.2 ?_
      refine am_s_iload rfl dc315_17.1.2.1 ?_
      refine am_s_iload rfl dc315_17.1.2.2 ?_
      refine am_s_iload rfl dc315_17.2.1.1 ?_
      exact am_s_virtual true dc315_17.2.1.2 rfl (by decide) rfl rfl rfl ((vi_f (vi_f q c1) c2))
theorem v315_91 {sc : Option (Nat × (Nat → Int32))} {d k n : Nat} {P : am_O → Prop} {I : am_I} {J : am_J} {Pf : am_R} (hp : am_PF Pf) {x1 : Int32} {x2 : Int32} {x3 : Int32} {x4 : Int32} {x5 : Int32} {x6 : Int32} {x7 : Int32} {x8 : Int32} {x9 : Int32} {l10 : Option Value} (q : (am_in (1 + x2) 25 = true) ∧ (am_mth d 272 [.ref 163] (am_SH, am_u I 181 (Int32.toNatClampNeg (1 + x2)) (32 + x9), J, Pf) (am_af sc d 315 105 [some (.ref 163), some (.int x1), some (.int x2), some (.int x3), some (.int x4), some (.int x5), some (.int x6), some (.int x7), some (.int x8), some (.int x9), l10] [.ref 163] [] (am_SH, am_u I 181 (Int32.toNatClampNeg (1 + x2)) (32 + x9), J, Pf) k n true P))) : am_go sc d 315 (91, [some (.ref 163), some (.int x1), some (.int x2), some (.int x3), some (.int x4), some (.int x5), some (.int x6), some (.int x7), some (.int x8), some (.int x9), l10], [], (am_SH, I, J, Pf), k, n) P := by
  refine am_s_aload_n rfl dc315_6.2.2.1 ?_
  refine am_s_getR (r := 181) dc315_6.2.2.2 rfl rfl rfl (hp _ _ _ rfl) ?_
  refine am_s_iconst am_cc1 dc315_7.1.1.1 ?_
  refine am_s_iload_n rfl dc315_7.1.1.2 ?_
  refine am_s_iadd dc315_7.1.2.1 ?_
  refine am_s_bipush am_cb32 dc315_7.1.2.2 ?_
  refine am_s_iload rfl dc315_7.2.1.1 ?_
  refine am_s_iadd dc315_7.2.1.2 ?_
  refine am_s_iastore dc315_7.2.2.1 rfl (q.1) rfl ?_
  refine am_s_aload_n rfl dc315_7.2.2.2 ?_
  exact am_s_virtual true dc315_8.1.1.1 rfl (by decide) rfl rfl rfl (q.2)
theorem v315_253 {sc : Option (Nat × (Nat → Int32))} {d k n : Nat} {P : am_O → Prop} {I : am_I} {J : am_J} {Pf : am_R} (hp : am_PF Pf) {l1 : Option Value} {l2 : Option Value} {x3 : Int32} {x4 : Int32} {x5 : Int32} {x6 : Int32} {x7 : Int32} {x8 : Int32} {x9 : Int32} {x10 : Int32} {s0 : Int32} (q : (if s0 = 0 then (am_go sc d 315 (231, [some (.ref 163), l1, l2, some (.int x3), some (.int x4), some (.int x5), some (.int x6), some (.int x7), some (.int x8), some (.int x9), some (.int (x10 + (-1)))], [], (am_SH, I, J, Pf), k, n) P) else (am_go sc d 315 (231, [some (.ref 163), l1, l2, some (.int x3), some (.int x4), some (.int x5), some (.int x6), some (.int x7), some (.int x8), some (.int x10), some (.int (x10 + (-1)))], [], (am_SH, I, J, Pf), k, n) P))) : am_go sc d 315 (253, [some (.ref 163), l1, l2, some (.int x3), some (.int x4), some (.int x5), some (.int x6), some (.int x7), some (.int x8), some (.int x9), some (.int x10)], [.int s0], (am_SH, I, J, Pf), k, n) P := by
  refine am_s_if_eq dc315_17.2.2.1 rfl (fun c1 => ?_) (fun c1 => ?_)
  · refine am_s_iload rfl dc315_18.1.1.2 ?_
    refine am_s_istore (ls' := [some (.ref 163), l1, l2, some (.int x3), some (.int x4), some (.int x5), some (.int x6), some (.int x7), some (.int x8), some (.int x9), some (.int x10)]) rfl rfl dc315_18.1.2.1 ?_
    refine am_s_iinc (ls' := [some (.ref 163), l1, l2, some (.int x3), some (.int x4), some (.int x5), some (.int x6), some (.int x7), some (.int x8), some (.int x9), some (.int (x10 + (-1)))]) am_ccm1 rfl rfl dc315_18.1.2.2 ?_
    refine am_s_goto rfl dc315_18.2.1.1 ?_
    exact (vi_t q c1)
  · refine am_s_iload rfl dc315_17.2.2.2 ?_
    refine am_s_goto rfl dc315_18.1.1.1 ?_
    refine am_s_istore (ls' := [some (.ref 163), l1, l2, some (.int x3), some (.int x4), some (.int x5), some (.int x6), some (.int x7), some (.int x8), some (.int x10), some (.int x10)]) rfl rfl dc315_18.1.2.1 ?_
    refine am_s_iinc (ls' := [some (.ref 163), l1, l2, some (.int x3), some (.int x4), some (.int x5), some (.int x6), some (.int x7), some (.int x8), some (.int x10), some (.int (x10 + (-1)))]) am_ccm1 rfl rfl dc315_18.1.2.2 ?_
    refine am_s_goto rfl dc315_18.2.1.1 ?_
    exact (vi_f q c1)
theorem v315_108 {sc : Option (Nat × (Nat → Int32))} {d k n : Nat} {P : am_O → Prop} {I : am_I} {J : am_J} {Pf : am_R} (hp : am_PF Pf) {x1 : Int32} {x2 : Int32} {x3 : Int32} {x4 : Int32} {x5 : Int32} {x6 : Int32} {x7 : Int32} {x8 : Int32} {x9 : Int32} {l10 : Option Value} {s0 : Int32} (q : (if ((s0 >>> (x1 &&& 31)) &&& 1) = 0 then (am_go sc d 315 (80, [some (.ref 163), some (.int x1), some (.int x2), some (.int x3), some (.int x4), some (.int x5), some (.int x6), some (.int x7), some (.int x8), some (.int (x9 + 1)), l10], [], (am_SH, I, J, Pf), k, n) P) else (if x5 = (-1) then (if 32 ≤ x9 then (if x9 < 32 then (if x9 < 64 then (am_go sc d 315 (80, [some (.ref 163), some (.int x1), some (.int x2), some (.int x3), some (.int (x4 + 1)), some (.int (32 + x9)), some (.int (x6 ||| 0)), some (.int (x7 ||| 0)), some (.int (x8 ||| 0)), some (.int (x9 + 1)), l10], [], (am_SH, I, J, Pf), k, n) P) else (am_go sc d 315 (80, [some (.ref 163), some (.int x1), some (.int x2), some (.int x3), some (.int (x4 + 1)), some (.int (32 + x9)), some (.int (x6 ||| 0)), some (.int (x7 ||| 0)), some (.int (x8 ||| ((1 : Int32) <<< ((x9 - 64) &&& 31)))), some (.int (x9 + 1)), l10], [], (am_SH, I, J, Pf), k, n) P)) else (if 64 ≤ x9 then (if x9 < 64 then (am_go sc d 315 (80, [some (.ref 163), some (.int x1), some (.int x2), some (.int x3), some (.int (x4 + 1)), some (.int (32 + x9)), some (.int (x6 ||| 0)), some (.int (x7 ||| 0)), some (.int (x8 ||| 0)), some (.int (x9 + 1)), l10], [], (am_SH, I, J, Pf), k, n) P) else (am_go sc d 315 (80, [some (.ref 163), some (.int x1), some (.int x2), some (.int x3), some (.int (x4 + 1)), some (.int (32 + x9)), some (.int (x6 ||| 0)), some (.int (x7 ||| 0)), some (.int (x8 ||| ((1 : Int32) <<< ((x9 - 64) &&& 31)))), some (.int (x9 + 1)), l10], [], (am_SH, I, J, Pf), k, n) P)) else (if x9 < 64 then (am_go sc d 315 (80, [some (.ref 163), some (.int x1), some (.int x2), some (.int x3), some (.int (x4 + 1)), some (.int (32 + x9)), some (.int (x6 ||| 0)), some (.int (x7 ||| ((1 : Int32) <<< ((x9 - 32) &&& 31)))), some (.int (x8 ||| 0)), some (.int (x9 + 1)), l10], [], (am_SH, I, J, Pf), k, n) P) else (am_go sc d 315 (80, [some (.ref 163), some (.int x1), some (.int x2), some (.int x3), some (.int (x4 + 1)), some (.int (32 + x9)), some (.int (x6 ||| 0)), some (.int (x7 ||| ((1 : Int32) <<< ((x9 - 32) &&& 31)))), some (.int (x8 ||| ((1 : Int32) <<< ((x9 - 64) &&& 31)))), some (.int (x9 + 1)), l10], [], (am_SH, I, J, Pf), k, n) P)))) else (if x9 < 32 then (if x9 < 64 then (am_go sc d 315 (80, [some (.ref 163), some (.int x1), some (.int x2), some (.int x3), some (.int (x4 + 1)), some (.int (32 + x9)), some (.int (x6 ||| ((1 : Int32) <<< (x9 &&& 31)))), some (.int (x7 ||| 0)), some (.int (x8 ||| 0)), some (.int (x9 + 1)), l10], [], (am_SH, I, J, Pf), k, n) P) else (am_go sc d 315 (80, [some (.ref 163), some (.int x1), some (.int x2), some (.int x3), some (.int (x4 + 1)), some (.int (32 + x9)), some (.int (x6 ||| ((1 : Int32) <<< (x9 &&& 31)))), some (.int (x7 ||| 0)), some (.int (x8 ||| ((1 : Int32) <<< ((x9 - 64) &&& 31)))), some (.int (x9 + 1)), l10], [], (am_SH, I, J, Pf), k, n) P)) else (if 64 ≤ x9 then (if x9 < 64 then (am_go sc d 315 (80, [some (.ref 163), some (.int x1), some (.int x2), some (.int x3), some (.int (x4 + 1)), some (.int (32 + x9)), some (.int (x6 ||| ((1 : Int32) <<< (x9 &&& 31)))), some (.int (x7 ||| 0)), some (.int (x8 ||| 0)), some (.int (x9 + 1)), l10], [], (am_SH, I, J, Pf), k, n) P) else (am_go sc d 315 (80, [some (.ref 163), some (.int x1), some (.int x2), some (.int x3), some (.int (x4 + 1)), some (.int (32 + x9)), some (.int (x6 ||| ((1 : Int32) <<< (x9 &&& 31)))), some (.int (x7 ||| 0)), some (.int (x8 ||| ((1 : Int32) <<< ((x9 - 64) &&& 31)))), some (.int (x9 + 1)), l10], [], (am_SH, I, J, Pf), k, n) P)) else (if x9 < 64 then (am_go sc d 315 (80, [some (.ref 163), some (.int x1), some (.int x2), some (.int x3), some (.int (x4 + 1)), some (.int (32 + x9)), some (.int (x6 ||| ((1 : Int32) <<< (x9 &&& 31)))), some (.int (x7 ||| ((1 : Int32) <<< ((x9 - 32) &&& 31)))), some (.int (x8 ||| 0)), some (.int (x9 + 1)), l10], [], (am_SH, I, J, Pf), k, n) P) else (am_go sc d 315 (80, [some (.ref 163), some (.int x1), some (.int x2), some (.int x3), some (.int (x4 + 1)), some (.int (32 + x9)), some (.int (x6 ||| ((1 : Int32) <<< (x9 &&& 31)))), some (.int (x7 ||| ((1 : Int32) <<< ((x9 - 32) &&& 31)))), some (.int (x8 ||| ((1 : Int32) <<< ((x9 - 64) &&& 31)))), some (.int (x9 + 1)), l10], [], (am_SH, I, J, Pf), k, n) P))))) else (if 32 ≤ x9 then (if x9 < 32 then (if x9 < 64 then (am_go sc d 315 (80, [some (.ref 163), some (.int x1), some (.int x2), some (.int x3), some (.int (x4 + 1)), some (.int x5), some (.int (x6 ||| 0)), some (.int (x7 ||| 0)), some (.int (x8 ||| 0)), some (.int (x9 + 1)), l10], [], (am_SH, I, J, Pf), k, n) P) else (am_go sc d 315 (80, [some (.ref 163), some (.int x1), some (.int x2), some (.int x3), some (.int (x4 + 1)), some (.int x5), some (.int (x6 ||| 0)), some (.int (x7 ||| 0)), some (.int (x8 ||| ((1 : Int32) <<< ((x9 - 64) &&& 31)))), some (.int (x9 + 1)), l10], [], (am_SH, I, J, Pf), k, n) P)) else (if 64 ≤ x9 then (if x9 < 64 then (am_go sc d 315 (80, [some (.ref 163), some (.int x1), some (.int x2), some (.int x3), some (.int (x4 + 1)), some (.int x5), some (.int (x6 ||| 0)), some (.int (x7 ||| 0)), some (.int (x8 ||| 0)), some (.int (x9 + 1)), l10], [], (am_SH, I, J, Pf), k, n) P) else (am_go sc d 315 (80, [some (.ref 163), some (.int x1), some (.int x2), some (.int x3), some (.int (x4 + 1)), some (.int x5), some (.int (x6 ||| 0)), some (.int (x7 ||| 0)), some (.int (x8 ||| ((1 : Int32) <<< ((x9 - 64) &&& 31)))), some (.int (x9 + 1)), l10], [], (am_SH, I, J, Pf), k, n) P)) else (if x9 < 64 then (am_go sc d 315 (80, [some (.ref 163), some (.int x1), some (.int x2), some (.int x3), some (.int (x4 + 1)), some (.int x5), some (.int (x6 ||| 0)), some (.int (x7 ||| ((1 : Int32) <<< ((x9 - 32) &&& 31)))), some (.int (x8 ||| 0)), some (.int (x9 + 1)), l10], [], (am_SH, I, J, Pf), k, n) P) else (am_go sc d 315 (80, [some (.ref 163), some (.int x1), some (.int x2), some (.int x3), some (.int (x4 + 1)), some (.int x5), some (.int (x6 ||| 0)), some (.int (x7 ||| ((1 : Int32) <<< ((x9 - 32) &&& 31)))), some (.int (x8 ||| ((1 : Int32) <<< ((x9 - 64) &&& 31)))), some (.int (x9 + 1)), l10], [], (am_SH, I, J, Pf), k, n) P)))) else (if x9 < 32 then (if x9 < 64 then (am_go sc d 315 (80, [some (.ref 163), some (.int x1), some (.int x2), some (.int x3), some (.int (x4 + 1)), some (.int x5), some (.int (x6 ||| ((1 : Int32) <<< (x9 &&& 31)))), some (.int (x7 ||| 0)), some (.int (x8 ||| 0)), some (.int (x9 + 1)), l10], [], (am_SH, I, J, Pf), k, n) P) else (am_go sc d 315 (80, [some (.ref 163), some (.int x1), some (.int x2), some (.int x3), some (.int (x4 + 1)), some (.int x5), some (.int (x6 ||| ((1 : Int32) <<< (x9 &&& 31)))), some (.int (x7 ||| 0)), some (.int (x8 ||| ((1 : Int32) <<< ((x9 - 64) &&& 31)))), some (.int (x9 + 1)), l10], [], (am_SH, I, J, Pf), k, n) P)) else (if 64 ≤ x9 then (if x9 < 64 then (am_go sc d 315 (80, [some (.ref 163), some (.int x1), some (.int x2), some (.int x3), some (.int (x4 + 1)), some (.int x5), some (.int (x6 ||| ((1 : Int32) <<< (x9 &&& 31)))), some (.int (x7 ||| 0)), some (.int (x8 ||| 0)), some (.int (x9 + 1)), l10], [], (am_SH, I, J, Pf), k, n) P) else (am_go sc d 315 (80, [some (.ref 163), some (.int x1), some (.int x2), some (.int x3), some (.int (x4 + 1)), some (.int x5), some (.int (x6 ||| ((1 : Int32) <<< (x9 &&& 31)))), some (.int (x7 ||| 0)), some (.int (x8 ||| ((1 : Int32) <<< ((x9 - 64) &&& 31)))), some (.int (x9 + 1)), l10], [], (am_SH, I, J, Pf), k, n) P)) else (if x9 < 64 then (am_go sc d 315 (80, [some (.ref 163), some (.int x1), some (.int x2), some (.int x3), some (.int (x4 + 1)), some (.int x5), some (.int (x6 ||| ((1 : Int32) <<< (x9 &&& 31)))), some (.int (x7 ||| ((1 : Int32) <<< ((x9 - 32) &&& 31)))), some (.int (x8 ||| 0)), some (.int (x9 + 1)), l10], [], (am_SH, I, J, Pf), k, n) P) else (am_go sc d 315 (80, [some (.ref 163), some (.int x1), some (.int x2), some (.int x3), some (.int (x4 + 1)), some (.int x5), some (.int (x6 ||| ((1 : Int32) <<< (x9 &&& 31)))), some (.int (x7 ||| ((1 : Int32) <<< ((x9 - 32) &&& 31)))), some (.int (x8 ||| ((1 : Int32) <<< ((x9 - 64) &&& 31)))), some (.int (x9 + 1)), l10], [], (am_SH, I, J, Pf), k, n) P)))))))) : am_go sc d 315 (108, [some (.ref 163), some (.int x1), some (.int x2), some (.int x3), some (.int x4), some (.int x5), some (.int x6), some (.int x7), some (.int x8), some (.int x9), l10], [.int s0], (am_SH, I, J, Pf), k, n) P := by
  refine am_s_iload_n rfl dc315_8.1.1.2 ?_
  refine am_s_ishr dc315_8.1.2.1 ?_
  refine am_s_iconst am_cc1 dc315_8.1.2.2 ?_
  refine am_s_iand dc315_8.2.1.1 ?_
  refine am_s_if_ne dc315_8.2.1.2 rfl (fun c1 => ?_) (fun c1 => ?_)
  · refine am_s_iinc (ls' := [some (.ref 163), some (.int x1), some (.int x2), some (.int x3), some (.int (x4 + 1)), some (.int x5), some (.int x6), some (.int x7), some (.int x8), some (.int x9), l10]) am_cc1 rfl rfl dc315_8.2.2.2 ?_
    refine am_s_iload rfl dc315_9.1.1.1 ?_
    refine am_s_iconst am_ccm1 dc315_9.1.1.2 ?_
    refine am_s_ic_ne dc315_9.1.2.1 rfl (fun c2 => ?_) (fun c2 => ?_)
    · refine am_s_iload rfl dc315_9.2.2.2 ?_
      refine am_s_istore (ls' := [some (.ref 163), some (.int x1), some (.int x2), some (.int x3), some (.int (x4 + 1)), some (.int x5), some (.int x6), some (.int x7), some (.int x8), some (.int x9), l10]) rfl rfl dc315_10.1.1.1 ?_
      refine am_s_iload rfl dc315_10.1.1.2 ?_
      refine am_s_iload rfl dc315_10.1.2.1 ?_
      refine am_s_bipush am_cb32 dc315_10.1.2.2 ?_
      refine am_s_ic_ge dc315_10.2.1.1 rfl (fun c3 => ?_) (fun c3 => ?_)
      · refine am_s_iconst am_cc0 dc315_11.1.1.2 ?_
        refine am_s_ior dc315_11.1.2.1 ?_
        refine am_s_istore (ls' := [some (.ref 163), some (.int x1), some (.int x2), some (.int x3), some (.int (x4 + 1)), some (.int x5), some (.int (x6 ||| 0)), some (.int x7), some (.int x8), some (.int x9), l10]) rfl rfl dc315_11.1.2.2 ?_
        refine am_s_iload rfl dc315_11.2.1.1 ?_
        refine am_s_iload rfl dc315_11.2.1.2 ?_
        refine am_s_bipush am_cb32 dc315_11.2.2.1 ?_
        refine am_s_ic_lt dc315_11.2.2.2 rfl (fun c4 => ?_) (fun c4 => ?_)
        · refine am_s_iconst am_cc0 dc315_13.1.1.2 ?_
          refine am_s_ior dc315_13.1.2.1 ?_
          refine am_s_istore (ls' := [some (.ref 163), some (.int x1), some (.int x2), some (.int x3), some (.int (x4 + 1)), some (.int x5), some (.int (x6 ||| 0)), some (.int (x7 ||| 0)), some (.int x8), some (.int x9), l10]) rfl rfl dc315_13.1.2.2 ?_
          refine am_s_iload rfl dc315_13.2.1.1 ?_
          refine am_s_iload rfl dc315_13.2.1.2 ?_
          refine am_s_bipush am_cb64 dc315_13.2.2.1 ?_
          refine am_s_ic_lt dc315_13.2.2.2 rfl (fun c5 => ?_) (fun c5 => ?_)
          · refine am_s_iconst am_cc0 dc315_14.2.2.1 ?_
            refine am_s_ior dc315_14.2.2.2 ?_
            refine am_s_istore (ls' := [some (.ref 163), some (.int x1), some (.int x2), some (.int x3), some (.int (x4 + 1)), some (.int x5), some (.int (x6 ||| 0)), some (.int (x7 ||| 0)), some (.int (x8 ||| 0)), some (.int x9), l10]) rfl rfl dc315_15.1.1.1 ?_
            refine am_s_iinc (ls' := [some (.ref 163), some (.int x1), some (.int x2), some (.int x3), some (.int (x4 + 1)), some (.int x5), some (.int (x6 ||| 0)), some (.int (x7 ||| 0)), some (.int (x8 ||| 0)), some (.int (x9 + 1)), l10]) am_cc1 rfl rfl dc315_15.1.1.2 ?_
            refine am_s_goto rfl dc315_15.1.2.1 ?_
            exact (vi_t (vi_t (vi_t (vi_f (vi_f q c1) c2) c3) c4) c5)
          · refine am_s_iconst am_cc1 dc315_14.1.1.1 ?_
            refine am_s_iload rfl dc315_14.1.1.2 ?_
            refine am_s_bipush am_cb64 dc315_14.1.2.1 ?_
            refine am_s_isub dc315_14.1.2.2 ?_
            refine am_s_ishl dc315_14.2.1.1 ?_
            refine am_s_goto rfl dc315_14.2.1.2 ?_
            refine am_s_ior dc315_14.2.2.2 ?_
            refine am_s_istore (ls' := [some (.ref 163), some (.int x1), some (.int x2), some (.int x3), some (.int (x4 + 1)), some (.int x5), some (.int (x6 ||| 0)), some (.int (x7 ||| 0)), some (.int (x8 ||| ((1 : Int32) <<< ((x9 - 64) &&& 31)))), some (.int x9), l10]) rfl rfl dc315_15.1.1.1 ?_
            refine am_s_iinc (ls' := [some (.ref 163), some (.int x1), some (.int x2), some (.int x3), some (.int (x4 + 1)), some (.int x5), some (.int (x6 ||| 0)), some (.int (x7 ||| 0)), some (.int (x8 ||| ((1 : Int32) <<< ((x9 - 64) &&& 31)))), some (.int (x9 + 1)), l10]) am_cc1 rfl rfl dc315_15.1.1.2 ?_
            refine am_s_goto rfl dc315_15.1.2.1 ?_
            exact (vi_f (vi_t (vi_t (vi_f (vi_f q c1) c2) c3) c4) c5)
        · refine am_s_iload rfl dc315_12.1.1.1 ?_
          refine am_s_bipush am_cb64 dc315_12.1.1.2 ?_
          refine am_s_ic_ge dc315_12.1.2.1 rfl (fun c5 => ?_) (fun c5 => ?_)
          · refine am_s_iconst am_cc0 dc315_13.1.1.2 ?_
            refine am_s_ior dc315_13.1.2.1 ?_
            refine am_s_istore (ls' := [some (.ref 163), some (.int x1), some (.int x2), some (.int x3), some (.int (x4 + 1)), some (.int x5), some (.int (x6 ||| 0)), some (.int (x7 ||| 0)), some (.int x8), some (.int x9), l10]) rfl rfl dc315_13.1.2.2 ?_
            refine am_s_iload rfl dc315_13.2.1.1 ?_
            refine am_s_iload rfl dc315_13.2.1.2 ?_
            refine am_s_bipush am_cb64 dc315_13.2.2.1 ?_
            refine am_s_ic_lt dc315_13.2.2.2 rfl (fun c6 => ?_) (fun c6 => ?_)
            · refine am_s_iconst am_cc0 dc315_14.2.2.1 ?_
              refine am_s_ior dc315_14.2.2.2 ?_
              refine am_s_istore (ls' := [some (.ref 163), some (.int x1), some (.int x2), some (.int x3), some (.int (x4 + 1)), some (.int x5), some (.int (x6 ||| 0)), some (.int (x7 ||| 0)), some (.int (x8 ||| 0)), some (.int x9), l10]) rfl rfl dc315_15.1.1.1 ?_
              refine am_s_iinc (ls' := [some (.ref 163), some (.int x1), some (.int x2), some (.int x3), some (.int (x4 + 1)), some (.int x5), some (.int (x6 ||| 0)), some (.int (x7 ||| 0)), some (.int (x8 ||| 0)), some (.int (x9 + 1)), l10]) am_cc1 rfl rfl dc315_15.1.1.2 ?_
              refine am_s_goto rfl dc315_15.1.2.1 ?_
              exact (vi_t (vi_t (vi_f (vi_t (vi_f (vi_f q c1) c2) c3) c4) c5) c6)
            · refine am_s_iconst am_cc1 dc315_14.1.1.1 ?_
              refine am_s_iload rfl dc315_14.1.1.2 ?_
              refine am_s_bipush am_cb64 dc315_14.1.2.1 ?_
              refine am_s_isub dc315_14.1.2.2 ?_
              refine am_s_ishl dc315_14.2.1.1 ?_
              refine am_s_goto rfl dc315_14.2.1.2 ?_
              refine am_s_ior dc315_14.2.2.2 ?_
              refine am_s_istore (ls' := [some (.ref 163), some (.int x1), some (.int x2), some (.int x3), some (.int (x4 + 1)), some (.int x5), some (.int (x6 ||| 0)), some (.int (x7 ||| 0)), some (.int (x8 ||| ((1 : Int32) <<< ((x9 - 64) &&& 31)))), some (.int x9), l10]) rfl rfl dc315_15.1.1.1 ?_
              refine am_s_iinc (ls' := [some (.ref 163), some (.int x1), some (.int x2), some (.int x3), some (.int (x4 + 1)), some (.int x5), some (.int (x6 ||| 0)), some (.int (x7 ||| 0)), some (.int (x8 ||| ((1 : Int32) <<< ((x9 - 64) &&& 31)))), some (.int (x9 + 1)), l10]) am_cc1 rfl rfl dc315_15.1.1.2 ?_
              refine am_s_goto rfl dc315_15.1.2.1 ?_
              exact (vi_f (vi_t (vi_f (vi_t (vi_f (vi_f q c1) c2) c3) c4) c5) c6)
          · refine am_s_iconst am_cc1 dc315_12.1.2.2 ?_
            refine am_s_iload rfl dc315_12.2.1.1 ?_
            refine am_s_bipush am_cb32 dc315_12.2.1.2 ?_
            refine am_s_isub dc315_12.2.2.1 ?_
            refine am_s_ishl dc315_12.2.2.2 ?_
            refine am_s_goto rfl dc315_13.1.1.1 ?_
            refine am_s_ior dc315_13.1.2.1 ?_
            refine am_s_istore (ls' := [some (.ref 163), some (.int x1), some (.int x2), some (.int x3), some (.int (x4 + 1)), some (.int x5), some (.int (x6 ||| 0)), some (.int (x7 ||| ((1 : Int32) <<< ((x9 - 32) &&& 31)))), some (.int x8), some (.int x9), l10]) rfl rfl dc315_13.1.2.2 ?_
            refine am_s_iload rfl dc315_13.2.1.1 ?_
            refine am_s_iload rfl dc315_13.2.1.2 ?_
            refine am_s_bipush am_cb64 dc315_13.2.2.1 ?_
            refine am_s_ic_lt dc315_13.2.2.2 rfl (fun c6 => ?_) (fun c6 => ?_)
            · refine am_s_iconst am_cc0 dc315_14.2.2.1 ?_
              refine am_s_ior dc315_14.2.2.2 ?_
              refine am_s_istore (ls' := [some (.ref 163), some (.int x1), some (.int x2), some (.int x3), some (.int (x4 + 1)), some (.int x5), some (.int (x6 ||| 0)), some (.int (x7 ||| ((1 : Int32) <<< ((x9 - 32) &&& 31)))), some (.int (x8 ||| 0)), some (.int x9), l10]) rfl rfl dc315_15.1.1.1 ?_
              refine am_s_iinc (ls' := [some (.ref 163), some (.int x1), some (.int x2), some (.int x3), some (.int (x4 + 1)), some (.int x5), some (.int (x6 ||| 0)), some (.int (x7 ||| ((1 : Int32) <<< ((x9 - 32) &&& 31)))), some (.int (x8 ||| 0)), some (.int (x9 + 1)), l10]) am_cc1 rfl rfl dc315_15.1.1.2 ?_
              refine am_s_goto rfl dc315_15.1.2.1 ?_
              exact (vi_t (vi_f (vi_f (vi_t (vi_f (vi_f q c1) c2) c3) c4) c5) c6)
            · refine am_s_iconst am_cc1 dc315_14.1.1.1 ?_
              refine am_s_iload rfl dc315_14.1.1.2 ?_
              refine am_s_bipush am_cb64 dc315_14.1.2.1 ?_
              refine am_s_isub dc315_14.1.2.2 ?_
              refine am_s_ishl dc315_14.2.1.1 ?_
              refine am_s_goto rfl dc315_14.2.1.2 ?_
              refine am_s_ior dc315_14.2.2.2 ?_
              refine am_s_istore (ls' := [some (.ref 163), some (.int x1), some (.int x2), some (.int x3), some (.int (x4 + 1)), some (.int x5), some (.int (x6 ||| 0)), some (.int (x7 ||| ((1 : Int32) <<< ((x9 - 32) &&& 31)))), some (.int (x8 ||| ((1 : Int32) <<< ((x9 - 64) &&& 31)))), some (.int x9), l10]) rfl rfl dc315_15.1.1.1 ?_
              refine am_s_iinc (ls' := [some (.ref 163), some (.int x1), some (.int x2), some (.int x3), some (.int (x4 + 1)), some (.int x5), some (.int (x6 ||| 0)), some (.int (x7 ||| ((1 : Int32) <<< ((x9 - 32) &&& 31)))), some (.int (x8 ||| ((1 : Int32) <<< ((x9 - 64) &&& 31)))), some (.int (x9 + 1)), l10]) am_cc1 rfl rfl dc315_15.1.1.2 ?_
              refine am_s_goto rfl dc315_15.1.2.1 ?_
              exact (vi_f (vi_f (vi_f (vi_t (vi_f (vi_f q c1) c2) c3) c4) c5) c6)
      · refine am_s_iconst am_cc1 dc315_10.2.1.2 ?_
        refine am_s_iload rfl dc315_10.2.2.1 ?_
        refine am_s_ishl dc315_10.2.2.2 ?_
        refine am_s_goto rfl dc315_11.1.1.1 ?_
        refine am_s_ior dc315_11.1.2.1 ?_
        refine am_s_istore (ls' := [some (.ref 163), some (.int x1), some (.int x2), some (.int x3), some (.int (x4 + 1)), some (.int x5), some (.int (x6 ||| ((1 : Int32) <<< (x9 &&& 31)))), some (.int x7), some (.int x8), some (.int x9), l10]) rfl rfl dc315_11.1.2.2 ?_
        refine am_s_iload rfl dc315_11.2.1.1 ?_
        refine am_s_iload rfl dc315_11.2.1.2 ?_
        refine am_s_bipush am_cb32 dc315_11.2.2.1 ?_
        refine am_s_ic_lt dc315_11.2.2.2 rfl (fun c4 => ?_) (fun c4 => ?_)
        · refine am_s_iconst am_cc0 dc315_13.1.1.2 ?_
          refine am_s_ior dc315_13.1.2.1 ?_
          refine am_s_istore (ls' := [some (.ref 163), some (.int x1), some (.int x2), some (.int x3), some (.int (x4 + 1)), some (.int x5), some (.int (x6 ||| ((1 : Int32) <<< (x9 &&& 31)))), some (.int (x7 ||| 0)), some (.int x8), some (.int x9), l10]) rfl rfl dc315_13.1.2.2 ?_
          refine am_s_iload rfl dc315_13.2.1.1 ?_
          refine am_s_iload rfl dc315_13.2.1.2 ?_
          refine am_s_bipush am_cb64 dc315_13.2.2.1 ?_
          refine am_s_ic_lt dc315_13.2.2.2 rfl (fun c5 => ?_) (fun c5 => ?_)
          · refine am_s_iconst am_cc0 dc315_14.2.2.1 ?_
            refine am_s_ior dc315_14.2.2.2 ?_
            refine am_s_istore (ls' := [some (.ref 163), some (.int x1), some (.int x2), some (.int x3), some (.int (x4 + 1)), some (.int x5), some (.int (x6 ||| ((1 : Int32) <<< (x9 &&& 31)))), some (.int (x7 ||| 0)), some (.int (x8 ||| 0)), some (.int x9), l10]) rfl rfl dc315_15.1.1.1 ?_
            refine am_s_iinc (ls' := [some (.ref 163), some (.int x1), some (.int x2), some (.int x3), some (.int (x4 + 1)), some (.int x5), some (.int (x6 ||| ((1 : Int32) <<< (x9 &&& 31)))), some (.int (x7 ||| 0)), some (.int (x8 ||| 0)), some (.int (x9 + 1)), l10]) am_cc1 rfl rfl dc315_15.1.1.2 ?_
            refine am_s_goto rfl dc315_15.1.2.1 ?_
            exact (vi_t (vi_t (vi_f (vi_f (vi_f q c1) c2) c3) c4) c5)
          · refine am_s_iconst am_cc1 dc315_14.1.1.1 ?_
            refine am_s_iload rfl dc315_14.1.1.2 ?_
            refine am_s_bipush am_cb64 dc315_14.1.2.1 ?_
            refine am_s_isub dc315_14.1.2.2 ?_
            refine am_s_ishl dc315_14.2.1.1 ?_
            refine am_s_goto rfl dc315_14.2.1.2 ?_
            refine am_s_ior dc315_14.2.2.2 ?_
            refine am_s_istore (ls' := [some (.ref 163), some (.int x1), some (.int x2), some (.int x3), some (.int (x4 + 1)), some (.int x5), some (.int (x6 ||| ((1 : Int32) <<< (x9 &&& 31)))), some (.int (x7 ||| 0)), some (.int (x8 ||| ((1 : Int32) <<< ((x9 - 64) &&& 31)))), some (.int x9), l10]) rfl rfl dc315_15.1.1.1 ?_
            refine am_s_iinc (ls' := [some (.ref 163), some (.int x1), some (.int x2), some (.int x3), some (.int (x4 + 1)), some (.int x5), some (.int (x6 ||| ((1 : Int32) <<< (x9 &&& 31)))), some (.int (x7 ||| 0)), some (.int (x8 ||| ((1 : Int32) <<< ((x9 - 64) &&& 31)))), some (.int (x9 + 1)), l10]) am_cc1 rfl rfl dc315_15.1.1.2 ?_
            refine am_s_goto rfl dc315_15.1.2.1 ?_
            exact (vi_f (vi_t (vi_f (vi_f (vi_f q c1) c2) c3) c4) c5)
        · refine am_s_iload rfl dc315_12.1.1.1 ?_
          refine am_s_bipush am_cb64 dc315_12.1.1.2 ?_
          refine am_s_ic_ge dc315_12.1.2.1 rfl (fun c5 => ?_) (fun c5 => ?_)
          · refine am_s_iconst am_cc0 dc315_13.1.1.2 ?_
            refine am_s_ior dc315_13.1.2.1 ?_
            refine am_s_istore (ls' := [some (.ref 163), some (.int x1), some (.int x2), some (.int x3), some (.int (x4 + 1)), some (.int x5), some (.int (x6 ||| ((1 : Int32) <<< (x9 &&& 31)))), some (.int (x7 ||| 0)), some (.int x8), some (.int x9), l10]) rfl rfl dc315_13.1.2.2 ?_
            refine am_s_iload rfl dc315_13.2.1.1 ?_
            refine am_s_iload rfl dc315_13.2.1.2 ?_
            refine am_s_bipush am_cb64 dc315_13.2.2.1 ?_
            refine am_s_ic_lt dc315_13.2.2.2 rfl (fun c6 => ?_) (fun c6 => ?_)
            · refine am_s_iconst am_cc0 dc315_14.2.2.1 ?_
              refine am_s_ior dc315_14.2.2.2 ?_
              refine am_s_istore (ls' := [some (.ref 163), some (.int x1), some (.int x2), some (.int x3), some (.int (x4 + 1)), some (.int x5), some (.int (x6 ||| ((1 : Int32) <<< (x9 &&& 31)))), some (.int (x7 ||| 0)), some (.int (x8 ||| 0)), some (.int x9), l10]) rfl rfl dc315_15.1.1.1 ?_
              refine am_s_iinc (ls' := [some (.ref 163), some (.int x1), some (.int x2), some (.int x3), some (.int (x4 + 1)), some (.int x5), some (.int (x6 ||| ((1 : Int32) <<< (x9 &&& 31)))), some (.int (x7 ||| 0)), some (.int (x8 ||| 0)), some (.int (x9 + 1)), l10]) am_cc1 rfl rfl dc315_15.1.1.2 ?_
              refine am_s_goto rfl dc315_15.1.2.1 ?_
              exact (vi_t (vi_t (vi_f (vi_f (vi_f (vi_f q c1) c2) c3) c4) c5) c6)
            · refine am_s_iconst am_cc1 dc315_14.1.1.1 ?_
              refine am_s_iload rfl dc315_14.1.1.2 ?_
              refine am_s_bipush am_cb64 dc315_14.1.2.1 ?_
              refine am_s_isub dc315_14.1.2.2 ?_
              refine am_s_ishl dc315_14.2.1.1 ?_
              refine am_s_goto rfl dc315_14.2.1.2 ?_
              refine am_s_ior dc315_14.2.2.2 ?_
              refine am_s_istore (ls' := [some (.ref 163), some (.int x1), some (.int x2), some (.int x3), some (.int (x4 + 1)), some (.int x5), some (.int (x6 ||| ((1 : Int32) <<< (x9 &&& 31)))), some (.int (x7 ||| 0)), some (.int (x8 ||| ((1 : Int32) <<< ((x9 - 64) &&& 31)))), some (.int x9), l10]) rfl rfl dc315_15.1.1.1 ?_
              refine am_s_iinc (ls' := [some (.ref 163), some (.int x1), some (.int x2), some (.int x3), some (.int (x4 + 1)), some (.int x5), some (.int (x6 ||| ((1 : Int32) <<< (x9 &&& 31)))), some (.int (x7 ||| 0)), some (.int (x8 ||| ((1 : Int32) <<< ((x9 - 64) &&& 31)))), some (.int (x9 + 1)), l10]) am_cc1 rfl rfl dc315_15.1.1.2 ?_
              refine am_s_goto rfl dc315_15.1.2.1 ?_
              exact (vi_f (vi_t (vi_f (vi_f (vi_f (vi_f q c1) c2) c3) c4) c5) c6)
          · refine am_s_iconst am_cc1 dc315_12.1.2.2 ?_
            refine am_s_iload rfl dc315_12.2.1.1 ?_
            refine am_s_bipush am_cb32 dc315_12.2.1.2 ?_
            refine am_s_isub dc315_12.2.2.1 ?_
            refine am_s_ishl dc315_12.2.2.2 ?_
            refine am_s_goto rfl dc315_13.1.1.1 ?_
            refine am_s_ior dc315_13.1.2.1 ?_
            refine am_s_istore (ls' := [some (.ref 163), some (.int x1), some (.int x2), some (.int x3), some (.int (x4 + 1)), some (.int x5), some (.int (x6 ||| ((1 : Int32) <<< (x9 &&& 31)))), some (.int (x7 ||| ((1 : Int32) <<< ((x9 - 32) &&& 31)))), some (.int x8), some (.int x9), l10]) rfl rfl dc315_13.1.2.2 ?_
            refine am_s_iload rfl dc315_13.2.1.1 ?_
            refine am_s_iload rfl dc315_13.2.1.2 ?_
            refine am_s_bipush am_cb64 dc315_13.2.2.1 ?_
            refine am_s_ic_lt dc315_13.2.2.2 rfl (fun c6 => ?_) (fun c6 => ?_)
            · refine am_s_iconst am_cc0 dc315_14.2.2.1 ?_
              refine am_s_ior dc315_14.2.2.2 ?_
              refine am_s_istore (ls' := [some (.ref 163), some (.int x1), some (.int x2), some (.int x3), some (.int (x4 + 1)), some (.int x5), some (.int (x6 ||| ((1 : Int32) <<< (x9 &&& 31)))), some (.int (x7 ||| ((1 : Int32) <<< ((x9 - 32) &&& 31)))), some (.int (x8 ||| 0)), some (.int x9), l10]) rfl rfl dc315_15.1.1.1 ?_
              refine am_s_iinc (ls' := [some (.ref 163), some (.int x1), some (.int x2), some (.int x3), some (.int (x4 + 1)), some (.int x5), some (.int (x6 ||| ((1 : Int32) <<< (x9 &&& 31)))), some (.int (x7 ||| ((1 : Int32) <<< ((x9 - 32) &&& 31)))), some (.int (x8 ||| 0)), some (.int (x9 + 1)), l10]) am_cc1 rfl rfl dc315_15.1.1.2 ?_
              refine am_s_goto rfl dc315_15.1.2.1 ?_
              exact (vi_t (vi_f (vi_f (vi_f (vi_f (vi_f q c1) c2) c3) c4) c5) c6)
            · refine am_s_iconst am_cc1 dc315_14.1.1.1 ?_
              refine am_s_iload rfl dc315_14.1.1.2 ?_
              refine am_s_bipush am_cb64 dc315_14.1.2.1 ?_
              refine am_s_isub dc315_14.1.2.2 ?_
              refine am_s_ishl dc315_14.2.1.1 ?_
              refine am_s_goto rfl dc315_14.2.1.2 ?_
              refine am_s_ior dc315_14.2.2.2 ?_
              refine am_s_istore (ls' := [some (.ref 163), some (.int x1), some (.int x2), some (.int x3), some (.int (x4 + 1)), some (.int x5), some (.int (x6 ||| ((1 : Int32) <<< (x9 &&& 31)))), some (.int (x7 ||| ((1 : Int32) <<< ((x9 - 32) &&& 31)))), some (.int (x8 ||| ((1 : Int32) <<< ((x9 - 64) &&& 31)))), some (.int x9), l10]) rfl rfl dc315_15.1.1.1 ?_
              refine am_s_iinc (ls' := [some (.ref 163), some (.int x1), some (.int x2), some (.int x3), some (.int (x4 + 1)), some (.int x5), some (.int (x6 ||| ((1 : Int32) <<< (x9 &&& 31)))), some (.int (x7 ||| ((1 : Int32) <<< ((x9 - 32) &&& 31)))), some (.int (x8 ||| ((1 : Int32) <<< ((x9 - 64) &&& 31)))), some (.int (x9 + 1)), l10]) am_cc1 rfl rfl dc315_15.1.1.2 ?_
              refine am_s_goto rfl dc315_15.1.2.1 ?_
              exact (vi_f (vi_f (vi_f (vi_f (vi_f (vi_f q c1) c2) c3) c4) c5) c6)
    · refine am_s_bipush am_cb32 dc315_9.1.2.2 ?_
      refine am_s_iload rfl dc315_9.2.1.1 ?_
      refine am_s_iadd dc315_9.2.1.2 ?_
      refine am_s_goto rfl dc315_9.2.2.1 ?_
      refine am_s_istore (ls' := [some (.ref 163), some (.int x1), some (.int x2), some (.int x3), some (.int (x4 + 1)), some (.int (32 + x9)), some (.int x6), some (.int x7), some (.int x8), some (.int x9), l10]) rfl rfl dc315_10.1.1.1 ?_
      refine am_s_iload rfl dc315_10.1.1.2 ?_
      refine am_s_iload rfl dc315_10.1.2.1 ?_
      refine am_s_bipush am_cb32 dc315_10.1.2.2 ?_
      refine am_s_ic_ge dc315_10.2.1.1 rfl (fun c3 => ?_) (fun c3 => ?_)
      · refine am_s_iconst am_cc0 dc315_11.1.1.2 ?_
        refine am_s_ior dc315_11.1.2.1 ?_
        refine am_s_istore (ls' := [some (.ref 163), some (.int x1), some (.int x2), some (.int x3), some (.int (x4 + 1)), some (.int (32 + x9)), some (.int (x6 ||| 0)), some (.int x7), some (.int x8), some (.int x9), l10]) rfl rfl dc315_11.1.2.2 ?_
        refine am_s_iload rfl dc315_11.2.1.1 ?_
        refine am_s_iload rfl dc315_11.2.1.2 ?_
        refine am_s_bipush am_cb32 dc315_11.2.2.1 ?_
        refine am_s_ic_lt dc315_11.2.2.2 rfl (fun c4 => ?_) (fun c4 => ?_)
        · refine am_s_iconst am_cc0 dc315_13.1.1.2 ?_
          refine am_s_ior dc315_13.1.2.1 ?_
          refine am_s_istore (ls' := [some (.ref 163), some (.int x1), some (.int x2), some (.int x3), some (.int (x4 + 1)), some (.int (32 + x9)), some (.int (x6 ||| 0)), some (.int (x7 ||| 0)), some (.int x8), some (.int x9), l10]) rfl rfl dc315_13.1.2.2 ?_
          refine am_s_iload rfl dc315_13.2.1.1 ?_
          refine am_s_iload rfl dc315_13.2.1.2 ?_
          refine am_s_bipush am_cb64 dc315_13.2.2.1 ?_
          refine am_s_ic_lt dc315_13.2.2.2 rfl (fun c5 => ?_) (fun c5 => ?_)
          · refine am_s_iconst am_cc0 dc315_14.2.2.1 ?_
            refine am_s_ior dc315_14.2.2.2 ?_
            refine am_s_istore (ls' := [some (.ref 163), some (.int x1), some (.int x2), some (.int x3), some (.int (x4 + 1)), some (.int (32 + x9)), some (.int (x6 ||| 0)), some (.int (x7 ||| 0)), some (.int (x8 ||| 0)), some (.int x9), l10]) rfl rfl dc315_15.1.1.1 ?_
            refine am_s_iinc (ls' := [some (.ref 163), some (.int x1), some (.int x2), some (.int x3), some (.int (x4 + 1)), some (.int (32 + x9)), some (.int (x6 ||| 0)), some (.int (x7 ||| 0)), some (.int (x8 ||| 0)), some (.int (x9 + 1)), l10]) am_cc1 rfl rfl dc315_15.1.1.2 ?_
            refine am_s_goto rfl dc315_15.1.2.1 ?_
            exact (vi_t (vi_t (vi_t (vi_t (vi_f q c1) (Decidable.not_not.mp c2)) c3) c4) c5)
          · refine am_s_iconst am_cc1 dc315_14.1.1.1 ?_
            refine am_s_iload rfl dc315_14.1.1.2 ?_
            refine am_s_bipush am_cb64 dc315_14.1.2.1 ?_
            refine am_s_isub dc315_14.1.2.2 ?_
            refine am_s_ishl dc315_14.2.1.1 ?_
            refine am_s_goto rfl dc315_14.2.1.2 ?_
            refine am_s_ior dc315_14.2.2.2 ?_
            refine am_s_istore (ls' := [some (.ref 163), some (.int x1), some (.int x2), some (.int x3), some (.int (x4 + 1)), some (.int (32 + x9)), some (.int (x6 ||| 0)), some (.int (x7 ||| 0)), some (.int (x8 ||| ((1 : Int32) <<< ((x9 - 64) &&& 31)))), some (.int x9), l10]) rfl rfl dc315_15.1.1.1 ?_
            refine am_s_iinc (ls' := [some (.ref 163), some (.int x1), some (.int x2), some (.int x3), some (.int (x4 + 1)), some (.int (32 + x9)), some (.int (x6 ||| 0)), some (.int (x7 ||| 0)), some (.int (x8 ||| ((1 : Int32) <<< ((x9 - 64) &&& 31)))), some (.int (x9 + 1)), l10]) am_cc1 rfl rfl dc315_15.1.1.2 ?_
            refine am_s_goto rfl dc315_15.1.2.1 ?_
            exact (vi_f (vi_t (vi_t (vi_t (vi_f q c1) (Decidable.not_not.mp c2)) c3) c4) c5)
        · refine am_s_iload rfl dc315_12.1.1.1 ?_
          refine am_s_bipush am_cb64 dc315_12.1.1.2 ?_
          refine am_s_ic_ge dc315_12.1.2.1 rfl (fun c5 => ?_) (fun c5 => ?_)
          · refine am_s_iconst am_cc0 dc315_13.1.1.2 ?_
            refine am_s_ior dc315_13.1.2.1 ?_
            refine am_s_istore (ls' := [some (.ref 163), some (.int x1), some (.int x2), some (.int x3), some (.int (x4 + 1)), some (.int (32 + x9)), some (.int (x6 ||| 0)), some (.int (x7 ||| 0)), some (.int x8), some (.int x9), l10]) rfl rfl dc315_13.1.2.2 ?_
            refine am_s_iload rfl dc315_13.2.1.1 ?_
            refine am_s_iload rfl dc315_13.2.1.2 ?_
            refine am_s_bipush am_cb64 dc315_13.2.2.1 ?_
            refine am_s_ic_lt dc315_13.2.2.2 rfl (fun c6 => ?_) (fun c6 => ?_)
            · refine am_s_iconst am_cc0 dc315_14.2.2.1 ?_
              refine am_s_ior dc315_14.2.2.2 ?_
              refine am_s_istore (ls' := [some (.ref 163), some (.int x1), some (.int x2), some (.int x3), some (.int (x4 + 1)), some (.int (32 + x9)), some (.int (x6 ||| 0)), some (.int (x7 ||| 0)), some (.int (x8 ||| 0)), some (.int x9), l10]) rfl rfl dc315_15.1.1.1 ?_
              refine am_s_iinc (ls' := [some (.ref 163), some (.int x1), some (.int x2), some (.int x3), some (.int (x4 + 1)), some (.int (32 + x9)), some (.int (x6 ||| 0)), some (.int (x7 ||| 0)), some (.int (x8 ||| 0)), some (.int (x9 + 1)), l10]) am_cc1 rfl rfl dc315_15.1.1.2 ?_
              refine am_s_goto rfl dc315_15.1.2.1 ?_
              exact (vi_t (vi_t (vi_f (vi_t (vi_t (vi_f q c1) (Decidable.not_not.mp c2)) c3) c4) c5) c6)
            · refine am_s_iconst am_cc1 dc315_14.1.1.1 ?_
              refine am_s_iload rfl dc315_14.1.1.2 ?_
              refine am_s_bipush am_cb64 dc315_14.1.2.1 ?_
              refine am_s_isub dc315_14.1.2.2 ?_
              refine am_s_ishl dc315_14.2.1.1 ?_
              refine am_s_goto rfl dc315_14.2.1.2 ?_
              refine am_s_ior dc315_14.2.2.2 ?_
              refine am_s_istore (ls' := [some (.ref 163), some (.int x1), some (.int x2), some (.int x3), some (.int (x4 + 1)), some (.int (32 + x9)), some (.int (x6 ||| 0)), some (.int (x7 ||| 0)), some (.int (x8 ||| ((1 : Int32) <<< ((x9 - 64) &&& 31)))), some (.int x9), l10]) rfl rfl dc315_15.1.1.1 ?_
              refine am_s_iinc (ls' := [some (.ref 163), some (.int x1), some (.int x2), some (.int x3), some (.int (x4 + 1)), some (.int (32 + x9)), some (.int (x6 ||| 0)), some (.int (x7 ||| 0)), some (.int (x8 ||| ((1 : Int32) <<< ((x9 - 64) &&& 31)))), some (.int (x9 + 1)), l10]) am_cc1 rfl rfl dc315_15.1.1.2 ?_
              refine am_s_goto rfl dc315_15.1.2.1 ?_
              exact (vi_f (vi_t (vi_f (vi_t (vi_t (vi_f q c1) (Decidable.not_not.mp c2)) c3) c4) c5) c6)
          · refine am_s_iconst am_cc1 dc315_12.1.2.2 ?_
            refine am_s_iload rfl dc315_12.2.1.1 ?_
            refine am_s_bipush am_cb32 dc315_12.2.1.2 ?_
            refine am_s_isub dc315_12.2.2.1 ?_
            refine am_s_ishl dc315_12.2.2.2 ?_
            refine am_s_goto rfl dc315_13.1.1.1 ?_
            refine am_s_ior dc315_13.1.2.1 ?_
            refine am_s_istore (ls' := [some (.ref 163), some (.int x1), some (.int x2), some (.int x3), some (.int (x4 + 1)), some (.int (32 + x9)), some (.int (x6 ||| 0)), some (.int (x7 ||| ((1 : Int32) <<< ((x9 - 32) &&& 31)))), some (.int x8), some (.int x9), l10]) rfl rfl dc315_13.1.2.2 ?_
            refine am_s_iload rfl dc315_13.2.1.1 ?_
            refine am_s_iload rfl dc315_13.2.1.2 ?_
            refine am_s_bipush am_cb64 dc315_13.2.2.1 ?_
            refine am_s_ic_lt dc315_13.2.2.2 rfl (fun c6 => ?_) (fun c6 => ?_)
            · refine am_s_iconst am_cc0 dc315_14.2.2.1 ?_
              refine am_s_ior dc315_14.2.2.2 ?_
              refine am_s_istore (ls' := [some (.ref 163), some (.int x1), some (.int x2), some (.int x3), some (.int (x4 + 1)), some (.int (32 + x9)), some (.int (x6 ||| 0)), some (.int (x7 ||| ((1 : Int32) <<< ((x9 - 32) &&& 31)))), some (.int (x8 ||| 0)), some (.int x9), l10]) rfl rfl dc315_15.1.1.1 ?_
              refine am_s_iinc (ls' := [some (.ref 163), some (.int x1), some (.int x2), some (.int x3), some (.int (x4 + 1)), some (.int (32 + x9)), some (.int (x6 ||| 0)), some (.int (x7 ||| ((1 : Int32) <<< ((x9 - 32) &&& 31)))), some (.int (x8 ||| 0)), some (.int (x9 + 1)), l10]) am_cc1 rfl rfl dc315_15.1.1.2 ?_
              refine am_s_goto rfl dc315_15.1.2.1 ?_
              exact (vi_t (vi_f (vi_f (vi_t (vi_t (vi_f q c1) (Decidable.not_not.mp c2)) c3) c4) c5) c6)
            · refine am_s_iconst am_cc1 dc315_14.1.1.1 ?_
              refine am_s_iload rfl dc315_14.1.1.2 ?_
              refine am_s_bipush am_cb64 dc315_14.1.2.1 ?_
              refine am_s_isub dc315_14.1.2.2 ?_
              refine am_s_ishl dc315_14.2.1.1 ?_
              refine am_s_goto rfl dc315_14.2.1.2 ?_
              refine am_s_ior dc315_14.2.2.2 ?_
              refine am_s_istore (ls' := [some (.ref 163), some (.int x1), some (.int x2), some (.int x3), some (.int (x4 + 1)), some (.int (32 + x9)), some (.int (x6 ||| 0)), some (.int (x7 ||| ((1 : Int32) <<< ((x9 - 32) &&& 31)))), some (.int (x8 ||| ((1 : Int32) <<< ((x9 - 64) &&& 31)))), some (.int x9), l10]) rfl rfl dc315_15.1.1.1 ?_
              refine am_s_iinc (ls' := [some (.ref 163), some (.int x1), some (.int x2), some (.int x3), some (.int (x4 + 1)), some (.int (32 + x9)), some (.int (x6 ||| 0)), some (.int (x7 ||| ((1 : Int32) <<< ((x9 - 32) &&& 31)))), some (.int (x8 ||| ((1 : Int32) <<< ((x9 - 64) &&& 31)))), some (.int (x9 + 1)), l10]) am_cc1 rfl rfl dc315_15.1.1.2 ?_
              refine am_s_goto rfl dc315_15.1.2.1 ?_
              exact (vi_f (vi_f (vi_f (vi_t (vi_t (vi_f q c1) (Decidable.not_not.mp c2)) c3) c4) c5) c6)
      · refine am_s_iconst am_cc1 dc315_10.2.1.2 ?_
        refine am_s_iload rfl dc315_10.2.2.1 ?_
        refine am_s_ishl dc315_10.2.2.2 ?_
        refine am_s_goto rfl dc315_11.1.1.1 ?_
        refine am_s_ior dc315_11.1.2.1 ?_
        refine am_s_istore (ls' := [some (.ref 163), some (.int x1), some (.int x2), some (.int x3), some (.int (x4 + 1)), some (.int (32 + x9)), some (.int (x6 ||| ((1 : Int32) <<< (x9 &&& 31)))), some (.int x7), some (.int x8), some (.int x9), l10]) rfl rfl dc315_11.1.2.2 ?_
        refine am_s_iload rfl dc315_11.2.1.1 ?_
        refine am_s_iload rfl dc315_11.2.1.2 ?_
        refine am_s_bipush am_cb32 dc315_11.2.2.1 ?_
        refine am_s_ic_lt dc315_11.2.2.2 rfl (fun c4 => ?_) (fun c4 => ?_)
        · refine am_s_iconst am_cc0 dc315_13.1.1.2 ?_
          refine am_s_ior dc315_13.1.2.1 ?_
          refine am_s_istore (ls' := [some (.ref 163), some (.int x1), some (.int x2), some (.int x3), some (.int (x4 + 1)), some (.int (32 + x9)), some (.int (x6 ||| ((1 : Int32) <<< (x9 &&& 31)))), some (.int (x7 ||| 0)), some (.int x8), some (.int x9), l10]) rfl rfl dc315_13.1.2.2 ?_
          refine am_s_iload rfl dc315_13.2.1.1 ?_
          refine am_s_iload rfl dc315_13.2.1.2 ?_
          refine am_s_bipush am_cb64 dc315_13.2.2.1 ?_
          refine am_s_ic_lt dc315_13.2.2.2 rfl (fun c5 => ?_) (fun c5 => ?_)
          · refine am_s_iconst am_cc0 dc315_14.2.2.1 ?_
            refine am_s_ior dc315_14.2.2.2 ?_
            refine am_s_istore (ls' := [some (.ref 163), some (.int x1), some (.int x2), some (.int x3), some (.int (x4 + 1)), some (.int (32 + x9)), some (.int (x6 ||| ((1 : Int32) <<< (x9 &&& 31)))), some (.int (x7 ||| 0)), some (.int (x8 ||| 0)), some (.int x9), l10]) rfl rfl dc315_15.1.1.1 ?_
            refine am_s_iinc (ls' := [some (.ref 163), some (.int x1), some (.int x2), some (.int x3), some (.int (x4 + 1)), some (.int (32 + x9)), some (.int (x6 ||| ((1 : Int32) <<< (x9 &&& 31)))), some (.int (x7 ||| 0)), some (.int (x8 ||| 0)), some (.int (x9 + 1)), l10]) am_cc1 rfl rfl dc315_15.1.1.2 ?_
            refine am_s_goto rfl dc315_15.1.2.1 ?_
            exact (vi_t (vi_t (vi_f (vi_t (vi_f q c1) (Decidable.not_not.mp c2)) c3) c4) c5)
          · refine am_s_iconst am_cc1 dc315_14.1.1.1 ?_
            refine am_s_iload rfl dc315_14.1.1.2 ?_
            refine am_s_bipush am_cb64 dc315_14.1.2.1 ?_
            refine am_s_isub dc315_14.1.2.2 ?_
            refine am_s_ishl dc315_14.2.1.1 ?_
            refine am_s_goto rfl dc315_14.2.1.2 ?_
            refine am_s_ior dc315_14.2.2.2 ?_
            refine am_s_istore (ls' := [some (.ref 163), some (.int x1), some (.int x2), some (.int x3), some (.int (x4 + 1)), some (.int (32 + x9)), some (.int (x6 ||| ((1 : Int32) <<< (x9 &&& 31)))), some (.int (x7 ||| 0)), some (.int (x8 ||| ((1 : Int32) <<< ((x9 - 64) &&& 31)))), some (.int x9), l10]) rfl rfl dc315_15.1.1.1 ?_
            refine am_s_iinc (ls' := [some (.ref 163), some (.int x1), some (.int x2), some (.int x3), some (.int (x4 + 1)), some (.int (32 + x9)), some (.int (x6 ||| ((1 : Int32) <<< (x9 &&& 31)))), some (.int (x7 ||| 0)), some (.int (x8 ||| ((1 : Int32) <<< ((x9 - 64) &&& 31)))), some (.int (x9 + 1)), l10]) am_cc1 rfl rfl dc315_15.1.1.2 ?_
            refine am_s_goto rfl dc315_15.1.2.1 ?_
            exact (vi_f (vi_t (vi_f (vi_t (vi_f q c1) (Decidable.not_not.mp c2)) c3) c4) c5)
        · refine am_s_iload rfl dc315_12.1.1.1 ?_
          refine am_s_bipush am_cb64 dc315_12.1.1.2 ?_
          refine am_s_ic_ge dc315_12.1.2.1 rfl (fun c5 => ?_) (fun c5 => ?_)
          · refine am_s_iconst am_cc0 dc315_13.1.1.2 ?_
            refine am_s_ior dc315_13.1.2.1 ?_
            refine am_s_istore (ls' := [some (.ref 163), some (.int x1), some (.int x2), some (.int x3), some (.int (x4 + 1)), some (.int (32 + x9)), some (.int (x6 ||| ((1 : Int32) <<< (x9 &&& 31)))), some (.int (x7 ||| 0)), some (.int x8), some (.int x9), l10]) rfl rfl dc315_13.1.2.2 ?_
            refine am_s_iload rfl dc315_13.2.1.1 ?_
            refine am_s_iload rfl dc315_13.2.1.2 ?_
            refine am_s_bipush am_cb64 dc315_13.2.2.1 ?_
            refine am_s_ic_lt dc315_13.2.2.2 rfl (fun c6 => ?_) (fun c6 => ?_)
            · refine am_s_iconst am_cc0 dc315_14.2.2.1 ?_
              refine am_s_ior dc315_14.2.2.2 ?_
              refine am_s_istore (ls' := [some (.ref 163), some (.int x1), some (.int x2), some (.int x3), some (.int (x4 + 1)), some (.int (32 + x9)), some (.int (x6 ||| ((1 : Int32) <<< (x9 &&& 31)))), some (.int (x7 ||| 0)), some (.int (x8 ||| 0)), some (.int x9), l10]) rfl rfl dc315_15.1.1.1 ?_
              refine am_s_iinc (ls' := [some (.ref 163), some (.int x1), some (.int x2), some (.int x3), some (.int (x4 + 1)), some (.int (32 + x9)), some (.int (x6 ||| ((1 : Int32) <<< (x9 &&& 31)))), some (.int (x7 ||| 0)), some (.int (x8 ||| 0)), some (.int (x9 + 1)), l10]) am_cc1 rfl rfl dc315_15.1.1.2 ?_
              refine am_s_goto rfl dc315_15.1.2.1 ?_
              exact (vi_t (vi_t (vi_f (vi_f (vi_t (vi_f q c1) (Decidable.not_not.mp c2)) c3) c4) c5) c6)
            · refine am_s_iconst am_cc1 dc315_14.1.1.1 ?_
              refine am_s_iload rfl dc315_14.1.1.2 ?_
              refine am_s_bipush am_cb64 dc315_14.1.2.1 ?_
              refine am_s_isub dc315_14.1.2.2 ?_
              refine am_s_ishl dc315_14.2.1.1 ?_
              refine am_s_goto rfl dc315_14.2.1.2 ?_
              refine am_s_ior dc315_14.2.2.2 ?_
              refine am_s_istore (ls' := [some (.ref 163), some (.int x1), some (.int x2), some (.int x3), some (.int (x4 + 1)), some (.int (32 + x9)), some (.int (x6 ||| ((1 : Int32) <<< (x9 &&& 31)))), some (.int (x7 ||| 0)), some (.int (x8 ||| ((1 : Int32) <<< ((x9 - 64) &&& 31)))), some (.int x9), l10]) rfl rfl dc315_15.1.1.1 ?_
              refine am_s_iinc (ls' := [some (.ref 163), some (.int x1), some (.int x2), some (.int x3), some (.int (x4 + 1)), some (.int (32 + x9)), some (.int (x6 ||| ((1 : Int32) <<< (x9 &&& 31)))), some (.int (x7 ||| 0)), some (.int (x8 ||| ((1 : Int32) <<< ((x9 - 64) &&& 31)))), some (.int (x9 + 1)), l10]) am_cc1 rfl rfl dc315_15.1.1.2 ?_
              refine am_s_goto rfl dc315_15.1.2.1 ?_
              exact (vi_f (vi_t (vi_f (vi_f (vi_t (vi_f q c1) (Decidable.not_not.mp c2)) c3) c4) c5) c6)
          · refine am_s_iconst am_cc1 dc315_12.1.2.2 ?_
            refine am_s_iload rfl dc315_12.2.1.1 ?_
            refine am_s_bipush am_cb32 dc315_12.2.1.2 ?_
            refine am_s_isub dc315_12.2.2.1 ?_
            refine am_s_ishl dc315_12.2.2.2 ?_
            refine am_s_goto rfl dc315_13.1.1.1 ?_
            refine am_s_ior dc315_13.1.2.1 ?_
            refine am_s_istore (ls' := [some (.ref 163), some (.int x1), some (.int x2), some (.int x3), some (.int (x4 + 1)), some (.int (32 + x9)), some (.int (x6 ||| ((1 : Int32) <<< (x9 &&& 31)))), some (.int (x7 ||| ((1 : Int32) <<< ((x9 - 32) &&& 31)))), some (.int x8), some (.int x9), l10]) rfl rfl dc315_13.1.2.2 ?_
            refine am_s_iload rfl dc315_13.2.1.1 ?_
            refine am_s_iload rfl dc315_13.2.1.2 ?_
            refine am_s_bipush am_cb64 dc315_13.2.2.1 ?_
            refine am_s_ic_lt dc315_13.2.2.2 rfl (fun c6 => ?_) (fun c6 => ?_)
            · refine am_s_iconst am_cc0 dc315_14.2.2.1 ?_
              refine am_s_ior dc315_14.2.2.2 ?_
              refine am_s_istore (ls' := [some (.ref 163), some (.int x1), some (.int x2), some (.int x3), some (.int (x4 + 1)), some (.int (32 + x9)), some (.int (x6 ||| ((1 : Int32) <<< (x9 &&& 31)))), some (.int (x7 ||| ((1 : Int32) <<< ((x9 - 32) &&& 31)))), some (.int (x8 ||| 0)), some (.int x9), l10]) rfl rfl dc315_15.1.1.1 ?_
              refine am_s_iinc (ls' := [some (.ref 163), some (.int x1), some (.int x2), some (.int x3), some (.int (x4 + 1)), some (.int (32 + x9)), some (.int (x6 ||| ((1 : Int32) <<< (x9 &&& 31)))), some (.int (x7 ||| ((1 : Int32) <<< ((x9 - 32) &&& 31)))), some (.int (x8 ||| 0)), some (.int (x9 + 1)), l10]) am_cc1 rfl rfl dc315_15.1.1.2 ?_
              refine am_s_goto rfl dc315_15.1.2.1 ?_
              exact (vi_t (vi_f (vi_f (vi_f (vi_t (vi_f q c1) (Decidable.not_not.mp c2)) c3) c4) c5) c6)
            · refine am_s_iconst am_cc1 dc315_14.1.1.1 ?_
              refine am_s_iload rfl dc315_14.1.1.2 ?_
              refine am_s_bipush am_cb64 dc315_14.1.2.1 ?_
              refine am_s_isub dc315_14.1.2.2 ?_
              refine am_s_ishl dc315_14.2.1.1 ?_
              refine am_s_goto rfl dc315_14.2.1.2 ?_
              refine am_s_ior dc315_14.2.2.2 ?_
              refine am_s_istore (ls' := [some (.ref 163), some (.int x1), some (.int x2), some (.int x3), some (.int (x4 + 1)), some (.int (32 + x9)), some (.int (x6 ||| ((1 : Int32) <<< (x9 &&& 31)))), some (.int (x7 ||| ((1 : Int32) <<< ((x9 - 32) &&& 31)))), some (.int (x8 ||| ((1 : Int32) <<< ((x9 - 64) &&& 31)))), some (.int x9), l10]) rfl rfl dc315_15.1.1.1 ?_
              refine am_s_iinc (ls' := [some (.ref 163), some (.int x1), some (.int x2), some (.int x3), some (.int (x4 + 1)), some (.int (32 + x9)), some (.int (x6 ||| ((1 : Int32) <<< (x9 &&& 31)))), some (.int (x7 ||| ((1 : Int32) <<< ((x9 - 32) &&& 31)))), some (.int (x8 ||| ((1 : Int32) <<< ((x9 - 64) &&& 31)))), some (.int (x9 + 1)), l10]) am_cc1 rfl rfl dc315_15.1.1.2 ?_
              refine am_s_goto rfl dc315_15.1.2.1 ?_
              exact (vi_f (vi_f (vi_f (vi_f (vi_t (vi_f q c1) (Decidable.not_not.mp c2)) c3) c4) c5) c6)
  · refine am_s_goto rfl dc315_8.2.2.1 ?_
    refine am_s_iinc (ls' := [some (.ref 163), some (.int x1), some (.int x2), some (.int x3), some (.int x4), some (.int x5), some (.int x6), some (.int x7), some (.int x8), some (.int (x9 + 1)), l10]) am_cc1 rfl rfl dc315_15.1.1.2 ?_
    refine am_s_goto rfl dc315_15.1.2.1 ?_
    exact (vi_t q (Decidable.not_not.mp c1))
-- draws (I)I
theorem v316_0 {sc : Option (Nat × (Nat → Int32))} {d k n : Nat} {P : am_O → Prop} {I : am_I} {J : am_J} {Pf : am_R} (hp : am_PF Pf) {x1 : Int32} (q : (¬ x1 = 0) ∧ (P (.inl (some (.int ((((((I 163 62) * 1103515245) + 12345) >>> ((16 : Int32) &&& 31)) &&& 32767) - (((((I 163 62) * 1103515245) + 12345) >>> ((16 : Int32) &&& 31)) &&& 32767) / x1 * x1))), (am_SH, am_u I 163 62 (((I 163 62) * 1103515245) + 12345), J, Pf), k, n))) : am_go sc d 316 (0, [some (.ref 163), some (.int x1)], [], (am_SH, I, J, Pf), k, n) P := by
  refine am_s_aload_n rfl dc316_0.1.1.1 ?_
  refine am_s_aload_n rfl dc316_0.1.1.2 ?_
  refine am_x_getI (x := I 163 62) dc316_0.1.2.1 rfl rfl (Or.inl rfl) rfl ?_
  refine am_s_ldcw (x := 1103515245) dc316_0.1.2.2 rfl rfl rfl ?_
  refine am_s_imul dc316_0.2.1.1 ?_
  refine am_s_sipush am_cs12345 dc316_0.2.1.2 ?_
  refine am_s_iadd dc316_0.2.2.1 ?_
  refine am_s_putI dc316_0.2.2.2 rfl rfl rfl rfl ?_
  refine am_s_aload_n rfl dc316_1.1.1.1 ?_
  refine am_x_getI (x := ((I 163 62) * 1103515245) + 12345) dc316_1.1.1.2 rfl rfl (Or.inl rfl) rfl ?_
  refine am_s_bipush am_cb16 dc316_1.1.2.1 ?_
  refine am_s_ishr dc316_1.1.2.2 ?_
  refine am_s_sipush am_cs32767 dc316_1.2.1.1 ?_
  refine am_s_iand dc316_1.2.1.2 ?_
  refine am_s_iload_n rfl dc316_1.2.2.1 ?_
  refine am_s_irem (q.1) dc316_1.2.2.2 ?_
  exact am_s_ireturn dc316_2 rfl (q.2)
-- isEdited ()Z
theorem v317_0 {sc : Option (Nat × (Nat → Int32))} {d k n : Nat} {P : am_O → Prop} {I : am_I} {J : am_J} {Pf : am_R} (hp : am_PF Pf) {l1 : Option Value} {l2 : Option Value} (q : (if 2 ≤ ((((((I 163 62) * 1103515245) + 12345) >>> ((16 : Int32) &&& 31)) &&& 32767) - (((((I 163 62) * 1103515245) + 12345) >>> ((16 : Int32) &&& 31)) &&& 32767) / 4 * 4) then (if ((((((I 163 62) * 1103515245) + 12345) >>> ((16 : Int32) &&& 31)) &&& 32767) - (((((I 163 62) * 1103515245) + 12345) >>> ((16 : Int32) &&& 31)) &&& 32767) / 4 * 4) = 2 then (¬ ((I 181 0) + 1) = 0) ∧ (am_mth (d + 1) 251 [.ref 181, .int ((((((((I 163 62) * 1103515245) + 12345) * 1103515245) + 12345) >>> ((16 : Int32) &&& 31)) &&& 32767) - (((((((I 163 62) * 1103515245) + 12345) * 1103515245) + 12345) >>> ((16 : Int32) &&& 31)) &&& 32767) / ((I 181 0) + 1) * ((I 181 0) + 1)), .int 1] (am_SH, am_u (am_u I 163 62 (((I 163 62) * 1103515245) + 12345)) 163 62 (((((I 163 62) * 1103515245) + 12345) * 1103515245) + 12345), J, Pf) (am_af sc (d + 1) 317 88 [some (.ref 163), some (.int ((((((I 163 62) * 1103515245) + 12345) >>> ((16 : Int32) &&& 31)) &&& 32767) - (((((I 163 62) * 1103515245) + 12345) >>> ((16 : Int32) &&& 31)) &&& 32767) / 4 * 4)), some (.int ((((((((I 163 62) * 1103515245) + 12345) * 1103515245) + 12345) >>> ((16 : Int32) &&& 31)) &&& 32767) - (((((((I 163 62) * 1103515245) + 12345) * 1103515245) + 12345) >>> ((16 : Int32) &&& 31)) &&& 32767) / ((I 181 0) + 1) * ((I 181 0) + 1)))] [.int 1, .int ((((((((I 163 62) * 1103515245) + 12345) * 1103515245) + 12345) >>> ((16 : Int32) &&& 31)) &&& 32767) - (((((((I 163 62) * 1103515245) + 12345) * 1103515245) + 12345) >>> ((16 : Int32) &&& 31)) &&& 32767) / ((I 181 0) + 1) * ((I 181 0) + 1)), .ref 181] [] (am_SH, am_u (am_u I 163 62 (((I 163 62) * 1103515245) + 12345)) 163 62 (((((I 163 62) * 1103515245) + 12345) * 1103515245) + 12345), J, Pf) k n false P)) else (am_mth (d + 1) 252 [.ref 181, .int ((((((((I 163 62) * 1103515245) + 12345) * 1103515245) + 12345) >>> ((16 : Int32) &&& 31)) &&& 32767) - (((((((I 163 62) * 1103515245) + 12345) * 1103515245) + 12345) >>> ((16 : Int32) &&& 31)) &&& 32767) / 24 * 24), .int ((((((((((I 163 62) * 1103515245) + 12345) * 1103515245) + 12345) * 1103515245) + 12345) >>> ((16 : Int32) &&& 31)) &&& 32767) - (((((((((I 163 62) * 1103515245) + 12345) * 1103515245) + 12345) * 1103515245) + 12345) >>> ((16 : Int32) &&& 31)) &&& 32767) / 24 * 24)] (am_SH, am_u (am_u (am_u I 163 62 (((I 163 62) * 1103515245) + 12345)) 163 62 (((((I 163 62) * 1103515245) + 12345) * 1103515245) + 12345)) 163 62 (((((((I 163 62) * 1103515245) + 12345) * 1103515245) + 12345) * 1103515245) + 12345), J, Pf) (am_af sc (d + 1) 317 105 [some (.ref 163), some (.int ((((((I 163 62) * 1103515245) + 12345) >>> ((16 : Int32) &&& 31)) &&& 32767) - (((((I 163 62) * 1103515245) + 12345) >>> ((16 : Int32) &&& 31)) &&& 32767) / 4 * 4)), some (.int ((((((((I 163 62) * 1103515245) + 12345) * 1103515245) + 12345) >>> ((16 : Int32) &&& 31)) &&& 32767) - (((((((I 163 62) * 1103515245) + 12345) * 1103515245) + 12345) >>> ((16 : Int32) &&& 31)) &&& 32767) / 24 * 24))] [.int ((((((((((I 163 62) * 1103515245) + 12345) * 1103515245) + 12345) * 1103515245) + 12345) >>> ((16 : Int32) &&& 31)) &&& 32767) - (((((((((I 163 62) * 1103515245) + 12345) * 1103515245) + 12345) * 1103515245) + 12345) >>> ((16 : Int32) &&& 31)) &&& 32767) / 24 * 24), .int ((((((((I 163 62) * 1103515245) + 12345) * 1103515245) + 12345) >>> ((16 : Int32) &&& 31)) &&& 32767) - (((((((I 163 62) * 1103515245) + 12345) * 1103515245) + 12345) >>> ((16 : Int32) &&& 31)) &&& 32767) / 24 * 24), .ref 181] [] (am_SH, am_u (am_u (am_u I 163 62 (((I 163 62) * 1103515245) + 12345)) 163 62 (((((I 163 62) * 1103515245) + 12345) * 1103515245) + 12345)) 163 62 (((((((I 163 62) * 1103515245) + 12345) * 1103515245) + 12345) * 1103515245) + 12345), J, Pf) k n false P))) else (¬ ((I 181 0) + 1) = 0) ∧ (am_mth (d + 1) 250 [.ref 181, .int ((((((((I 163 62) * 1103515245) + 12345) * 1103515245) + 12345) >>> ((16 : Int32) &&& 31)) &&& 32767) - (((((((I 163 62) * 1103515245) + 12345) * 1103515245) + 12345) >>> ((16 : Int32) &&& 31)) &&& 32767) / ((I 181 0) + 1) * ((I 181 0) + 1)), .ref 200, .int 0, .int 1] (am_SH, am_u (am_u (am_u (am_u I 163 62 (((I 163 62) * 1103515245) + 12345)) 163 62 (((((I 163 62) * 1103515245) + 12345) * 1103515245) + 12345)) 163 62 (((((((I 163 62) * 1103515245) + 12345) * 1103515245) + 12345) * 1103515245) + 12345)) 200 0 (32 + ((((((((((I 163 62) * 1103515245) + 12345) * 1103515245) + 12345) * 1103515245) + 12345) >>> ((16 : Int32) &&& 31)) &&& 32767) - (((((((((I 163 62) * 1103515245) + 12345) * 1103515245) + 12345) * 1103515245) + 12345) >>> ((16 : Int32) &&& 31)) &&& 32767) / 95 * 95)), J, Pf) (am_af sc (d + 1) 317 50 [some (.ref 163), some (.int ((((((I 163 62) * 1103515245) + 12345) >>> ((16 : Int32) &&& 31)) &&& 32767) - (((((I 163 62) * 1103515245) + 12345) >>> ((16 : Int32) &&& 31)) &&& 32767) / 4 * 4)), some (.int ((((((((I 163 62) * 1103515245) + 12345) * 1103515245) + 12345) >>> ((16 : Int32) &&& 31)) &&& 32767) - (((((((I 163 62) * 1103515245) + 12345) * 1103515245) + 12345) >>> ((16 : Int32) &&& 31)) &&& 32767) / ((I 181 0) + 1) * ((I 181 0) + 1)))] [.int 1, .int 0, .ref 200, .int ((((((((I 163 62) * 1103515245) + 12345) * 1103515245) + 12345) >>> ((16 : Int32) &&& 31)) &&& 32767) - (((((((I 163 62) * 1103515245) + 12345) * 1103515245) + 12345) >>> ((16 : Int32) &&& 31)) &&& 32767) / ((I 181 0) + 1) * ((I 181 0) + 1)), .ref 181] [] (am_SH, am_u (am_u (am_u (am_u I 163 62 (((I 163 62) * 1103515245) + 12345)) 163 62 (((((I 163 62) * 1103515245) + 12345) * 1103515245) + 12345)) 163 62 (((((((I 163 62) * 1103515245) + 12345) * 1103515245) + 12345) * 1103515245) + 12345)) 200 0 (32 + ((((((((((I 163 62) * 1103515245) + 12345) * 1103515245) + 12345) * 1103515245) + 12345) >>> ((16 : Int32) &&& 31)) &&& 32767) - (((((((((I 163 62) * 1103515245) + 12345) * 1103515245) + 12345) * 1103515245) + 12345) >>> ((16 : Int32) &&& 31)) &&& 32767) / 95 * 95)), J, Pf) k n false P)))) : am_go sc (d + 1) 317 (0, [some (.ref 163), l1, l2], [], (am_SH, I, J, Pf), k, n) P := by
  refine am_s_aload_n rfl dc317_0.1.1.1 ?_
  refine am_s_iconst am_cc4 dc317_0.1.1.2 ?_
  refine am_s_virtual true dc317_0.1.2.1 rfl (by decide) rfl rfl rfl (am_mth_of rfl rfl ?_)
  refine am_s_aload_n rfl dc316_0.1.1.1 ?_
  refine am_s_aload_n rfl dc316_0.1.1.2 ?_
  refine am_x_getI (x := I 163 62) dc316_0.1.2.1 rfl rfl (Or.inl rfl) rfl ?_
  refine am_s_ldcw (x := 1103515245) dc316_0.1.2.2 rfl rfl rfl ?_
  refine am_s_imul dc316_0.2.1.1 ?_
  refine am_s_sipush am_cs12345 dc316_0.2.1.2 ?_
  refine am_s_iadd dc316_0.2.2.1 ?_
  refine am_s_putI dc316_0.2.2.2 rfl rfl rfl rfl ?_
  refine am_s_aload_n rfl dc316_1.1.1.1 ?_
  refine am_x_getI (x := ((I 163 62) * 1103515245) + 12345) dc316_1.1.1.2 rfl rfl (Or.inl rfl) rfl ?_
  refine am_s_bipush am_cb16 dc316_1.1.2.1 ?_
  refine am_s_ishr dc316_1.1.2.2 ?_
  refine am_s_sipush am_cs32767 dc316_1.2.1.1 ?_
  refine am_s_iand dc316_1.2.1.2 ?_
  refine am_s_iload_n rfl dc316_1.2.2.1 ?_
  refine am_s_irem (by decide) dc316_1.2.2.2 ?_
  refine am_s_ireturn dc316_2 rfl (am_bkI ?_)
  refine am_s_istore_n (ls' := [some (.ref 163), some (.int ((((((I 163 62) * 1103515245) + 12345) >>> ((16 : Int32) &&& 31)) &&& 32767) - (((((I 163 62) * 1103515245) + 12345) >>> ((16 : Int32) &&& 31)) &&& 32767) / 4 * 4)), l2]) rfl rfl dc317_0.1.2.2 ?_
  refine am_s_iload_n rfl dc317_0.2.1.1 ?_
  refine am_s_iconst am_cc2 dc317_0.2.1.2 ?_
  refine am_s_ic_ge dc317_0.2.2.1 rfl (fun c1 => ?_) (fun c1 => ?_)
  · refine am_s_aload_n rfl dc317_4.1.2.1 ?_
    refine am_s_iload_n rfl dc317_4.1.2.2 ?_
    refine am_s_iconst am_cc2 dc317_4.2.1.1 ?_
    refine am_s_ic_ne dc317_4.2.1.2 rfl (fun c2 => ?_) (fun c2 => ?_)
    · refine am_s_bipush am_cb24 dc317_5.2.1.2 ?_
      refine am_s_virtual true dc317_5.2.2.1 rfl (by decide) rfl rfl rfl (am_mth_of rfl rfl ?_)
      refine am_s_aload_n rfl dc316_0.1.1.1 ?_
      refine am_s_aload_n rfl dc316_0.1.1.2 ?_
      refine am_x_getI (x := ((I 163 62) * 1103515245) + 12345) dc316_0.1.2.1 rfl rfl (Or.inl rfl) rfl ?_
      refine am_s_ldcw (x := 1103515245) dc316_0.1.2.2 rfl rfl rfl ?_
      refine am_s_imul dc316_0.2.1.1 ?_
      refine am_s_sipush am_cs12345 dc316_0.2.1.2 ?_
      refine am_s_iadd dc316_0.2.2.1 ?_
      refine am_s_putI dc316_0.2.2.2 rfl rfl rfl rfl ?_
      refine am_s_aload_n rfl dc316_1.1.1.1 ?_
      refine am_x_getI (x := ((((I 163 62) * 1103515245) + 12345) * 1103515245) + 12345) dc316_1.1.1.2 rfl rfl (Or.inl rfl) rfl ?_
      refine am_s_bipush am_cb16 dc316_1.1.2.1 ?_
      refine am_s_ishr dc316_1.1.2.2 ?_
      refine am_s_sipush am_cs32767 dc316_1.2.1.1 ?_
      refine am_s_iand dc316_1.2.1.2 ?_
      refine am_s_iload_n rfl dc316_1.2.2.1 ?_
      refine am_s_irem (by decide) dc316_1.2.2.2 ?_
      refine am_s_ireturn dc316_2 rfl (am_bkI ?_)
      refine am_s_istore_n (ls' := [some (.ref 163), some (.int ((((((I 163 62) * 1103515245) + 12345) >>> ((16 : Int32) &&& 31)) &&& 32767) - (((((I 163 62) * 1103515245) + 12345) >>> ((16 : Int32) &&& 31)) &&& 32767) / 4 * 4)), some (.int ((((((((I 163 62) * 1103515245) + 12345) * 1103515245) + 12345) >>> ((16 : Int32) &&& 31)) &&& 32767) - (((((((I 163 62) * 1103515245) + 12345) * 1103515245) + 12345) >>> ((16 : Int32) &&& 31)) &&& 32767) / 24 * 24))]) rfl rfl dc317_5.2.2.2 ?_
      refine am_s_iload_n rfl dc317_6.1.1.1 ?_
      refine am_s_iconst am_cc2 dc317_6.1.1.2 ?_
      refine am_s_ic_ne dc317_6.1.2.1 rfl (fun _ => ?_) (fun z => absurd c2 z)
      refine am_s_aload_n rfl dc317_7.1.1.2 ?_
      refine am_s_getR (r := 181) dc317_7.1.2.1 rfl rfl rfl (hp _ _ _ rfl) ?_
      refine am_s_iload_n rfl dc317_7.1.2.2 ?_
      refine am_s_aload_n rfl dc317_7.2.1.1 ?_
      refine am_s_bipush am_cb24 dc317_7.2.1.2 ?_
      refine am_s_virtual true dc317_7.2.2.1 rfl (by decide) rfl rfl rfl (am_mth_of rfl rfl ?_)
      refine am_s_aload_n rfl dc316_0.1.1.1 ?_
      refine am_s_aload_n rfl dc316_0.1.1.2 ?_
      refine am_x_getI (x := ((((I 163 62) * 1103515245) + 12345) * 1103515245) + 12345) dc316_0.1.2.1 rfl rfl (Or.inl rfl) rfl ?_
      refine am_s_ldcw (x := 1103515245) dc316_0.1.2.2 rfl rfl rfl ?_
      refine am_s_imul dc316_0.2.1.1 ?_
      refine am_s_sipush am_cs12345 dc316_0.2.1.2 ?_
      refine am_s_iadd dc316_0.2.2.1 ?_
      refine am_s_putI dc316_0.2.2.2 rfl rfl rfl rfl ?_
      refine am_s_aload_n rfl dc316_1.1.1.1 ?_
      refine am_x_getI (x := ((((((I 163 62) * 1103515245) + 12345) * 1103515245) + 12345) * 1103515245) + 12345) dc316_1.1.1.2 rfl rfl (Or.inl rfl) rfl ?_
      refine am_s_bipush am_cb16 dc316_1.1.2.1 ?_
      refine am_s_ishr dc316_1.1.2.2 ?_
      refine am_s_sipush am_cs32767 dc316_1.2.1.1 ?_
      refine am_s_iand dc316_1.2.1.2 ?_
      refine am_s_iload_n rfl dc316_1.2.2.1 ?_
      refine am_s_irem (by decide) dc316_1.2.2.2 ?_
      refine am_s_ireturn dc316_2 rfl (am_bkI ?_)
      exact am_s_static dc317_7.2.2.2 rfl rfl rfl ((vi_f (vi_t q c1) c2))
    · refine am_s_aload_n rfl dc317_4.2.2.1 ?_
      refine am_s_getR (r := 181) dc317_4.2.2.2 rfl rfl rfl (hp _ _ _ rfl) ?_
      refine am_s_iconst am_cc0 dc317_5.1.1.1 ?_
      refine am_x_iaload (x := I 181 0) dc317_5.1.1.2 rfl (by decide +kernel) am_cN0 rfl ?_
      refine am_s_iconst am_cc1 dc317_5.1.2.1 ?_
      refine am_s_iadd dc317_5.1.2.2 ?_
      refine am_s_goto rfl dc317_5.2.1.1 ?_
      refine am_s_virtual true dc317_5.2.2.1 rfl (by decide) rfl rfl rfl (am_mth_of rfl rfl ?_)
      refine am_s_aload_n rfl dc316_0.1.1.1 ?_
      refine am_s_aload_n rfl dc316_0.1.1.2 ?_
      refine am_x_getI (x := ((I 163 62) * 1103515245) + 12345) dc316_0.1.2.1 rfl rfl (Or.inl rfl) rfl ?_
      refine am_s_ldcw (x := 1103515245) dc316_0.1.2.2 rfl rfl rfl ?_
      refine am_s_imul dc316_0.2.1.1 ?_
      refine am_s_sipush am_cs12345 dc316_0.2.1.2 ?_
      refine am_s_iadd dc316_0.2.2.1 ?_
      refine am_s_putI dc316_0.2.2.2 rfl rfl rfl rfl ?_
      refine am_s_aload_n rfl dc316_1.1.1.1 ?_
      refine am_x_getI (x := ((((I 163 62) * 1103515245) + 12345) * 1103515245) + 12345) dc316_1.1.1.2 rfl rfl (Or.inl rfl) rfl ?_
      refine am_s_bipush am_cb16 dc316_1.1.2.1 ?_
      refine am_s_ishr dc316_1.1.2.2 ?_
      refine am_s_sipush am_cs32767 dc316_1.2.1.1 ?_
      refine am_s_iand dc316_1.2.1.2 ?_
      refine am_s_iload_n rfl dc316_1.2.2.1 ?_
      refine am_s_irem ((vi_t (vi_t q c1) (Decidable.not_not.mp c2)).1) dc316_1.2.2.2 ?_
      refine am_s_ireturn dc316_2 rfl (am_bkI ?_)
      refine am_s_istore_n (ls' := [some (.ref 163), some (.int ((((((I 163 62) * 1103515245) + 12345) >>> ((16 : Int32) &&& 31)) &&& 32767) - (((((I 163 62) * 1103515245) + 12345) >>> ((16 : Int32) &&& 31)) &&& 32767) / 4 * 4)), some (.int ((((((((I 163 62) * 1103515245) + 12345) * 1103515245) + 12345) >>> ((16 : Int32) &&& 31)) &&& 32767) - (((((((I 163 62) * 1103515245) + 12345) * 1103515245) + 12345) >>> ((16 : Int32) &&& 31)) &&& 32767) / ((I 181 0) + 1) * ((I 181 0) + 1)))]) rfl rfl dc317_5.2.2.2 ?_
      refine am_s_iload_n rfl dc317_6.1.1.1 ?_
      refine am_s_iconst am_cc2 dc317_6.1.1.2 ?_
      refine am_s_ic_ne dc317_6.1.2.1 rfl (fun z => absurd z c2) (fun _ => ?_)
      refine am_s_aload_n rfl dc317_6.1.2.2 ?_
      refine am_s_getR (r := 181) dc317_6.2.1.1 rfl rfl rfl (hp _ _ _ rfl) ?_
      refine am_s_iload_n rfl dc317_6.2.1.2 ?_
      refine am_s_iconst am_cc1 dc317_6.2.2.1 ?_
      exact am_s_static dc317_6.2.2.2 rfl rfl rfl ((vi_t (vi_t q c1) (Decidable.not_not.mp c2)).2)
  · refine am_s_aload_n rfl dc317_0.2.2.2 ?_
    refine am_s_aload_n rfl dc317_1.1.1.1 ?_
    refine am_s_getR (r := 181) dc317_1.1.1.2 rfl rfl rfl (hp _ _ _ rfl) ?_
    refine am_s_iconst am_cc0 dc317_1.1.2.1 ?_
    refine am_x_iaload (x := I 181 0) dc317_1.1.2.2 rfl (by decide +kernel) am_cN0 rfl ?_
    refine am_s_iconst am_cc1 dc317_1.2.1.1 ?_
    refine am_s_iadd dc317_1.2.1.2 ?_
    refine am_s_virtual true dc317_1.2.2.1 rfl (by decide) rfl rfl rfl (am_mth_of rfl rfl ?_)
    refine am_s_aload_n rfl dc316_0.1.1.1 ?_
    refine am_s_aload_n rfl dc316_0.1.1.2 ?_
    refine am_x_getI (x := ((I 163 62) * 1103515245) + 12345) dc316_0.1.2.1 rfl rfl (Or.inl rfl) rfl ?_
    refine am_s_ldcw (x := 1103515245) dc316_0.1.2.2 rfl rfl rfl ?_
    refine am_s_imul dc316_0.2.1.1 ?_
    refine am_s_sipush am_cs12345 dc316_0.2.1.2 ?_
    refine am_s_iadd dc316_0.2.2.1 ?_
    refine am_s_putI dc316_0.2.2.2 rfl rfl rfl rfl ?_
    refine am_s_aload_n rfl dc316_1.1.1.1 ?_
    refine am_x_getI (x := ((((I 163 62) * 1103515245) + 12345) * 1103515245) + 12345) dc316_1.1.1.2 rfl rfl (Or.inl rfl) rfl ?_
    refine am_s_bipush am_cb16 dc316_1.1.2.1 ?_
    refine am_s_ishr dc316_1.1.2.2 ?_
    refine am_s_sipush am_cs32767 dc316_1.2.1.1 ?_
    refine am_s_iand dc316_1.2.1.2 ?_
    refine am_s_iload_n rfl dc316_1.2.2.1 ?_
    refine am_s_irem ((vi_f q c1).1) dc316_1.2.2.2 ?_
    refine am_s_ireturn dc316_2 rfl (am_bkI ?_)
    refine am_s_istore_n (ls' := [some (.ref 163), some (.int ((((((I 163 62) * 1103515245) + 12345) >>> ((16 : Int32) &&& 31)) &&& 32767) - (((((I 163 62) * 1103515245) + 12345) >>> ((16 : Int32) &&& 31)) &&& 32767) / 4 * 4)), some (.int ((((((((I 163 62) * 1103515245) + 12345) * 1103515245) + 12345) >>> ((16 : Int32) &&& 31)) &&& 32767) - (((((((I 163 62) * 1103515245) + 12345) * 1103515245) + 12345) >>> ((16 : Int32) &&& 31)) &&& 32767) / ((I 181 0) + 1) * ((I 181 0) + 1)))]) rfl rfl dc317_1.2.2.2 ?_
    refine am_s_aload_n rfl dc317_2.1.1.1 ?_
    refine am_s_getR (r := 200) dc317_2.1.1.2 rfl rfl rfl (hp _ _ _ rfl) ?_
    refine am_s_iconst am_cc0 dc317_2.1.2.1 ?_
    refine am_s_bipush am_cb32 dc317_2.1.2.2 ?_
    refine am_s_aload_n rfl dc317_2.2.1.1 ?_
    refine am_s_bipush am_cb95 dc317_2.2.1.2 ?_
    refine am_s_virtual true dc317_2.2.2.1 rfl (by decide) rfl rfl rfl (am_mth_of rfl rfl ?_)
    refine am_s_aload_n rfl dc316_0.1.1.1 ?_
    refine am_s_aload_n rfl dc316_0.1.1.2 ?_
    refine am_x_getI (x := ((((I 163 62) * 1103515245) + 12345) * 1103515245) + 12345) dc316_0.1.2.1 rfl rfl (Or.inl rfl) rfl ?_
    refine am_s_ldcw (x := 1103515245) dc316_0.1.2.2 rfl rfl rfl ?_
    refine am_s_imul dc316_0.2.1.1 ?_
    refine am_s_sipush am_cs12345 dc316_0.2.1.2 ?_
    refine am_s_iadd dc316_0.2.2.1 ?_
    refine am_s_putI dc316_0.2.2.2 rfl rfl rfl rfl ?_
    refine am_s_aload_n rfl dc316_1.1.1.1 ?_
    refine am_x_getI (x := ((((((I 163 62) * 1103515245) + 12345) * 1103515245) + 12345) * 1103515245) + 12345) dc316_1.1.1.2 rfl rfl (Or.inl rfl) rfl ?_
    refine am_s_bipush am_cb16 dc316_1.1.2.1 ?_
    refine am_s_ishr dc316_1.1.2.2 ?_
    refine am_s_sipush am_cs32767 dc316_1.2.1.1 ?_
    refine am_s_iand dc316_1.2.1.2 ?_
    refine am_s_iload_n rfl dc316_1.2.2.1 ?_
    refine am_s_irem (by decide) dc316_1.2.2.2 ?_
    refine am_s_ireturn dc316_2 rfl (am_bkI ?_)
    refine am_s_iadd dc317_2.2.2.2 ?_
    refine am_s_iastore dc317_3.1.1.1 rfl (by decide +kernel) am_cN0 ?_
    refine am_s_aload_n rfl dc317_3.1.1.2 ?_
    refine am_s_getR (r := 181) dc317_3.1.2.1 rfl rfl rfl (hp _ _ _ rfl) ?_
    refine am_s_iload_n rfl dc317_3.1.2.2 ?_
    refine am_s_aload_n rfl dc317_3.2.1.1 ?_
    refine am_s_getR (r := 200) dc317_3.2.1.2 rfl rfl rfl (hp _ _ _ rfl) ?_
    refine am_s_iconst am_cc0 dc317_3.2.2.1 ?_
    refine am_s_iconst am_cc1 dc317_3.2.2.2 ?_
    exact am_s_static dc317_4.1.1.1 rfl rfl rfl ((vi_f q c1).2)
theorem v317_53 {sc : Option (Nat × (Nat → Int32))} {d k n : Nat} {P : am_O → Prop} {I : am_I} {J : am_J} {Pf : am_R} (hp : am_PF Pf) {l0 : Option Value} {l1 : Option Value} {l2 : Option Value} {s0 : Int32} (q : (s0 = 0 ∨ s0 = 1) ∧ (P (.inl (some (.int s0)), (am_SH, I, J, Pf), k, n))) : am_go sc d 317 (53, [l0, l1, l2], [.int s0], (am_SH, I, J, Pf), k, n) P := by
  exact am_s_zreturn dc317_4.1.1.2 rfl (q.1) (q.2)
theorem v317_91 {sc : Option (Nat × (Nat → Int32))} {d k n : Nat} {P : am_O → Prop} {I : am_I} {J : am_J} {Pf : am_R} (hp : am_PF Pf) {l0 : Option Value} {l1 : Option Value} {l2 : Option Value} {s0 : Int32} (q : (s0 = 0 ∨ s0 = 1) ∧ (P (.inl (some (.int s0)), (am_SH, I, J, Pf), k, n))) : am_go sc d 317 (91, [l0, l1, l2], [.int s0], (am_SH, I, J, Pf), k, n) P := by
  refine am_s_goto rfl dc317_7.1.1.1 ?_
  exact am_s_zreturn dc317_8 rfl (q.1) (q.2)
theorem v317_108 {sc : Option (Nat × (Nat → Int32))} {d k n : Nat} {P : am_O → Prop} {I : am_I} {J : am_J} {Pf : am_R} (hp : am_PF Pf) {l0 : Option Value} {l1 : Option Value} {l2 : Option Value} {s0 : Int32} (q : (s0 = 0 ∨ s0 = 1) ∧ (P (.inl (some (.int s0)), (am_SH, I, J, Pf), k, n))) : am_go sc d 317 (108, [l0, l1, l2], [.int s0], (am_SH, I, J, Pf), k, n) P := by
  exact am_s_zreturn dc317_8 rfl (q.1) (q.2)
-- isYear (I)Z
theorem v318_0 {sc : Option (Nat × (Nat → Int32))} {d k n : Nat} {P : am_O → Prop} {I : am_I} {J : am_J} {Pf : am_R} (hp : am_PF Pf) {x0 : Int32} (q : (if x0 < 1 then (P (.inl (some (.int 0)), (am_SH, I, J, Pf), k, n)) else (if 24 < x0 then (P (.inl (some (.int 0)), (am_SH, I, J, Pf), k, n)) else (P (.inl (some (.int 1)), (am_SH, I, J, Pf), k, n))))) : am_go sc d 318 (0, [some (.int x0)], [], (am_SH, I, J, Pf), k, n) P := by
  refine am_s_iload_n rfl dc318_0.1.1.1 ?_
  refine am_s_iconst am_cc1 dc318_0.1.1.2 ?_
  refine am_s_ic_lt dc318_0.1.2.1 rfl (fun c1 => ?_) (fun c1 => ?_)
  · refine am_s_iconst am_cc0 dc318_1.1 ?_
    exact am_s_zreturn dc318_1.2 rfl (by decide) ((vi_t q c1))
  · refine am_s_iload_n rfl dc318_0.1.2.2 ?_
    refine am_s_bipush am_cb24 dc318_0.2.1.1 ?_
    refine am_s_ic_gt dc318_0.2.1.2 rfl (fun c2 => ?_) (fun c2 => ?_)
    · refine am_s_iconst am_cc0 dc318_1.1 ?_
      exact am_s_zreturn dc318_1.2 rfl (by decide) ((vi_t (vi_f q c1) c2))
    · refine am_s_iconst am_cc1 dc318_0.2.2.1 ?_
      refine am_s_goto rfl dc318_0.2.2.2 ?_
      exact am_s_zreturn dc318_1.2 rfl (by decide) ((vi_f (vi_f q c1) c2))
-- year (III)I
theorem v319_0 {sc : Option (Nat × (Nat → Int32))} {d k n : Nat} {P : am_O → Prop} {I : am_I} {J : am_J} {Pf : am_R} (hp : am_PF Pf) {x1 : Int32} {x2 : Int32} {x3 : Int32} {l4 : Option Value} {l5 : Option Value} {l6 : Option Value} (q : (if x2 < 1 then (P (.inl (some (.int 0)), (am_SH, am_u (am_u (am_u I 163 0 0) 163 0 1) 164 1 ((I 164 1) + 1), J, Pf), k, n)) else (if 24 < x2 then (P (.inl (some (.int 0)), (am_SH, am_u (am_u (am_u I 163 0 0) 163 0 1) 164 1 ((I 164 1) + 1), J, Pf), k, n)) else (if x3 < 0 then (P (.inl (some (.int 0)), (am_SH, am_u (am_u (am_u I 163 0 0) 163 0 1) 164 1 ((I 164 1) + 1), J, Pf), k, n)) else (if 3 < x3 then (P (.inl (some (.int 0)), (am_SH, am_u (am_u (am_u I 163 0 0) 163 0 1) 164 1 ((I 164 1) + 1), J, Pf), k, n)) else (am_mth (d + 1) 273 [.ref 163] (am_SH, am_u I 163 0 0, J, Pf) (am_af sc (d + 1) 319 38 [some (.ref 163), some (.int x1), some (.int x2), some (.int x3), l4, l5, l6] [.ref 163] [] (am_SH, am_u I 163 0 0, J, Pf) k n true P))))))) : am_go sc (d + 1) 319 (0, [some (.ref 163), some (.int x1), some (.int x2), some (.int x3), l4, l5, l6], [], (am_SH, I, J, Pf), k, n) P := by
  refine am_s_aload_n rfl dc319_0.1.1.1 ?_
  refine am_s_iconst am_cc0 dc319_0.1.1.2 ?_
  refine am_s_putI dc319_0.1.2.1 rfl rfl rfl rfl ?_
  refine am_s_aload_n rfl dc319_0.1.2.2 ?_
  refine am_s_iload_n rfl dc319_0.2.1.1 ?_
  refine am_s_static dc319_0.2.1.2 rfl rfl rfl (am_mth_of rfl rfl ?_)
  refine am_s_iload_n rfl dc318_0.1.1.1 ?_
  refine am_s_iconst am_cc1 dc318_0.1.1.2 ?_
  refine am_s_ic_lt dc318_0.1.2.1 rfl (fun c1 => ?_) (fun c1 => ?_)
  · refine am_s_iconst am_cc0 dc318_1.1 ?_
    refine am_s_zreturn dc318_1.2 rfl (by decide) (am_bkI ?_)
    refine am_s_if_eq dc319_0.2.2.1 rfl (fun _ => ?_) (fun z => absurd z (by decide))
    refine am_s_iconst am_cc0 dc319_1.2.2.1 ?_
    refine am_s_iconst am_cc1 dc319_1.2.2.2 ?_
    refine am_s_iconst am_cc1 dc319_2.1.1.1 ?_
    refine am_s_virtual true dc319_2.1.1.2 rfl (by decide) rfl rfl rfl (am_mth_of rfl rfl ?_)
    refine am_s_iload_n rfl dc189_0.1.1.1 ?_
    refine am_s_if_ne dc189_0.1.1.2 rfl (fun z => absurd z (by decide)) (fun _ => ?_)
    refine am_s_aload_n rfl dc189_0.1.2.1 ?_
    refine am_x_getI (x := 0) dc189_0.1.2.2 rfl rfl (Or.inl rfl) rfl ?_
    refine am_s_if_ne dc189_0.2.1.1 rfl (fun z => absurd z (by decide)) (fun _ => ?_)
    refine am_s_aload_n rfl dc189_0.2.1.2 ?_
    refine am_s_iload_n rfl dc189_0.2.2.1 ?_
    refine am_s_putI dc189_0.2.2.2 rfl rfl rfl rfl ?_
    refine am_s_aload_n rfl dc189_1.1.1.1 ?_
    refine am_s_getR (r := 164) dc189_1.1.1.2 rfl rfl rfl (hp _ _ _ rfl) ?_
    refine am_s_iload_n rfl dc189_1.1.2.1 ?_
    refine am_s_dup2 rfl rfl dc189_1.1.2.2 ?_
    refine am_x_iaload (x := I 164 1) dc189_1.2.1.1 rfl (by decide +kernel) am_cN1 rfl ?_
    refine am_s_iconst am_cc1 dc189_1.2.1.2 ?_
    refine am_s_iadd dc189_1.2.2.1 ?_
    refine am_s_iastore dc189_1.2.2.2 rfl (by decide +kernel) am_cN1 ?_
    refine am_s_aload_n rfl dc189_2.1.1 ?_
    refine am_x_getI (x := 1) dc189_2.1.2.1 rfl rfl (Or.inl rfl) rfl ?_
    refine am_s_if_ne dc189_2.1.2.2 rfl (fun _ => ?_) (fun z => absurd z (by decide))
    refine am_s_iconst am_cc0 dc189_2.2.2.1 ?_
    refine am_s_zreturn dc189_2.2.2.2 rfl (by decide) (am_bkI ?_)
    refine am_s_if_ne dc319_2.1.2.1 rfl (fun z => absurd z (by decide)) (fun _ => ?_)
    refine am_s_iconst am_cc0 dc319_2.1.2.2 ?_
    exact am_s_ireturn dc319_2.2.1.1 rfl ((vi_t q c1))
  · refine am_s_iload_n rfl dc318_0.1.2.2 ?_
    refine am_s_bipush am_cb24 dc318_0.2.1.1 ?_
    refine am_s_ic_gt dc318_0.2.1.2 rfl (fun c2 => ?_) (fun c2 => ?_)
    · refine am_s_iconst am_cc0 dc318_1.1 ?_
      refine am_s_zreturn dc318_1.2 rfl (by decide) (am_bkI ?_)
      refine am_s_if_eq dc319_0.2.2.1 rfl (fun _ => ?_) (fun z => absurd z (by decide))
      refine am_s_iconst am_cc0 dc319_1.2.2.1 ?_
      refine am_s_iconst am_cc1 dc319_1.2.2.2 ?_
      refine am_s_iconst am_cc1 dc319_2.1.1.1 ?_
      refine am_s_virtual true dc319_2.1.1.2 rfl (by decide) rfl rfl rfl (am_mth_of rfl rfl ?_)
      refine am_s_iload_n rfl dc189_0.1.1.1 ?_
      refine am_s_if_ne dc189_0.1.1.2 rfl (fun z => absurd z (by decide)) (fun _ => ?_)
      refine am_s_aload_n rfl dc189_0.1.2.1 ?_
      refine am_x_getI (x := 0) dc189_0.1.2.2 rfl rfl (Or.inl rfl) rfl ?_
      refine am_s_if_ne dc189_0.2.1.1 rfl (fun z => absurd z (by decide)) (fun _ => ?_)
      refine am_s_aload_n rfl dc189_0.2.1.2 ?_
      refine am_s_iload_n rfl dc189_0.2.2.1 ?_
      refine am_s_putI dc189_0.2.2.2 rfl rfl rfl rfl ?_
      refine am_s_aload_n rfl dc189_1.1.1.1 ?_
      refine am_s_getR (r := 164) dc189_1.1.1.2 rfl rfl rfl (hp _ _ _ rfl) ?_
      refine am_s_iload_n rfl dc189_1.1.2.1 ?_
      refine am_s_dup2 rfl rfl dc189_1.1.2.2 ?_
      refine am_x_iaload (x := I 164 1) dc189_1.2.1.1 rfl (by decide +kernel) am_cN1 rfl ?_
      refine am_s_iconst am_cc1 dc189_1.2.1.2 ?_
      refine am_s_iadd dc189_1.2.2.1 ?_
      refine am_s_iastore dc189_1.2.2.2 rfl (by decide +kernel) am_cN1 ?_
      refine am_s_aload_n rfl dc189_2.1.1 ?_
      refine am_x_getI (x := 1) dc189_2.1.2.1 rfl rfl (Or.inl rfl) rfl ?_
      refine am_s_if_ne dc189_2.1.2.2 rfl (fun _ => ?_) (fun z => absurd z (by decide))
      refine am_s_iconst am_cc0 dc189_2.2.2.1 ?_
      refine am_s_zreturn dc189_2.2.2.2 rfl (by decide) (am_bkI ?_)
      refine am_s_if_ne dc319_2.1.2.1 rfl (fun z => absurd z (by decide)) (fun _ => ?_)
      refine am_s_iconst am_cc0 dc319_2.1.2.2 ?_
      exact am_s_ireturn dc319_2.2.1.1 rfl ((vi_t (vi_f q c1) c2))
    · refine am_s_iconst am_cc1 dc318_0.2.2.1 ?_
      refine am_s_goto rfl dc318_0.2.2.2 ?_
      refine am_s_zreturn dc318_1.2 rfl (by decide) (am_bkI ?_)
      refine am_s_if_eq dc319_0.2.2.1 rfl (fun z => absurd z (by decide)) (fun _ => ?_)
      refine am_s_iload_n rfl dc319_0.2.2.2 ?_
      refine am_s_iconst am_cc0 dc319_1.1.1.1 ?_
      refine am_s_iconst am_cc3 dc319_1.1.1.2 ?_
      refine am_s_static dc319_1.1.2.1 rfl rfl rfl (am_mth_of rfl rfl ?_)
      refine am_s_iload_n rfl dc190_0.1.1.1 ?_
      refine am_s_iload_n rfl dc190_0.1.1.2 ?_
      refine am_s_ic_lt dc190_0.1.2.1 rfl (fun c3 => ?_) (fun c3 => ?_)
      · refine am_s_iconst am_cc0 dc190_1.1 ?_
        refine am_s_zreturn dc190_1.2 rfl (by decide) (am_bkI ?_)
        refine am_s_if_eq dc319_1.1.2.2 rfl (fun _ => ?_) (fun z => absurd z (by decide))
        refine am_s_iconst am_cc0 dc319_1.2.2.1 ?_
        refine am_s_iconst am_cc1 dc319_1.2.2.2 ?_
        refine am_s_iconst am_cc1 dc319_2.1.1.1 ?_
        refine am_s_virtual true dc319_2.1.1.2 rfl (by decide) rfl rfl rfl (am_mth_of rfl rfl ?_)
        refine am_s_iload_n rfl dc189_0.1.1.1 ?_
        refine am_s_if_ne dc189_0.1.1.2 rfl (fun z => absurd z (by decide)) (fun _ => ?_)
        refine am_s_aload_n rfl dc189_0.1.2.1 ?_
        refine am_x_getI (x := 0) dc189_0.1.2.2 rfl rfl (Or.inl rfl) rfl ?_
        refine am_s_if_ne dc189_0.2.1.1 rfl (fun z => absurd z (by decide)) (fun _ => ?_)
        refine am_s_aload_n rfl dc189_0.2.1.2 ?_
        refine am_s_iload_n rfl dc189_0.2.2.1 ?_
        refine am_s_putI dc189_0.2.2.2 rfl rfl rfl rfl ?_
        refine am_s_aload_n rfl dc189_1.1.1.1 ?_
        refine am_s_getR (r := 164) dc189_1.1.1.2 rfl rfl rfl (hp _ _ _ rfl) ?_
        refine am_s_iload_n rfl dc189_1.1.2.1 ?_
        refine am_s_dup2 rfl rfl dc189_1.1.2.2 ?_
        refine am_x_iaload (x := I 164 1) dc189_1.2.1.1 rfl (by decide +kernel) am_cN1 rfl ?_
        refine am_s_iconst am_cc1 dc189_1.2.1.2 ?_
        refine am_s_iadd dc189_1.2.2.1 ?_
        refine am_s_iastore dc189_1.2.2.2 rfl (by decide +kernel) am_cN1 ?_
        refine am_s_aload_n rfl dc189_2.1.1 ?_
        refine am_x_getI (x := 1) dc189_2.1.2.1 rfl rfl (Or.inl rfl) rfl ?_
        refine am_s_if_ne dc189_2.1.2.2 rfl (fun _ => ?_) (fun z => absurd z (by decide))
        refine am_s_iconst am_cc0 dc189_2.2.2.1 ?_
        refine am_s_zreturn dc189_2.2.2.2 rfl (by decide) (am_bkI ?_)
        refine am_s_if_ne dc319_2.1.2.1 rfl (fun z => absurd z (by decide)) (fun _ => ?_)
        refine am_s_iconst am_cc0 dc319_2.1.2.2 ?_
        exact am_s_ireturn dc319_2.2.1.1 rfl ((vi_t (vi_f (vi_f q c1) c2) c3))
      · refine am_s_iload_n rfl dc190_0.1.2.2 ?_
        refine am_s_iload_n rfl dc190_0.2.1.1 ?_
        refine am_s_ic_gt dc190_0.2.1.2 rfl (fun c4 => ?_) (fun c4 => ?_)
        · refine am_s_iconst am_cc0 dc190_1.1 ?_
          refine am_s_zreturn dc190_1.2 rfl (by decide) (am_bkI ?_)
          refine am_s_if_eq dc319_1.1.2.2 rfl (fun _ => ?_) (fun z => absurd z (by decide))
          refine am_s_iconst am_cc0 dc319_1.2.2.1 ?_
          refine am_s_iconst am_cc1 dc319_1.2.2.2 ?_
          refine am_s_iconst am_cc1 dc319_2.1.1.1 ?_
          refine am_s_virtual true dc319_2.1.1.2 rfl (by decide) rfl rfl rfl (am_mth_of rfl rfl ?_)
          refine am_s_iload_n rfl dc189_0.1.1.1 ?_
          refine am_s_if_ne dc189_0.1.1.2 rfl (fun z => absurd z (by decide)) (fun _ => ?_)
          refine am_s_aload_n rfl dc189_0.1.2.1 ?_
          refine am_x_getI (x := 0) dc189_0.1.2.2 rfl rfl (Or.inl rfl) rfl ?_
          refine am_s_if_ne dc189_0.2.1.1 rfl (fun z => absurd z (by decide)) (fun _ => ?_)
          refine am_s_aload_n rfl dc189_0.2.1.2 ?_
          refine am_s_iload_n rfl dc189_0.2.2.1 ?_
          refine am_s_putI dc189_0.2.2.2 rfl rfl rfl rfl ?_
          refine am_s_aload_n rfl dc189_1.1.1.1 ?_
          refine am_s_getR (r := 164) dc189_1.1.1.2 rfl rfl rfl (hp _ _ _ rfl) ?_
          refine am_s_iload_n rfl dc189_1.1.2.1 ?_
          refine am_s_dup2 rfl rfl dc189_1.1.2.2 ?_
          refine am_x_iaload (x := I 164 1) dc189_1.2.1.1 rfl (by decide +kernel) am_cN1 rfl ?_
          refine am_s_iconst am_cc1 dc189_1.2.1.2 ?_
          refine am_s_iadd dc189_1.2.2.1 ?_
          refine am_s_iastore dc189_1.2.2.2 rfl (by decide +kernel) am_cN1 ?_
          refine am_s_aload_n rfl dc189_2.1.1 ?_
          refine am_x_getI (x := 1) dc189_2.1.2.1 rfl rfl (Or.inl rfl) rfl ?_
          refine am_s_if_ne dc189_2.1.2.2 rfl (fun _ => ?_) (fun z => absurd z (by decide))
          refine am_s_iconst am_cc0 dc189_2.2.2.1 ?_
          refine am_s_zreturn dc189_2.2.2.2 rfl (by decide) (am_bkI ?_)
          refine am_s_if_ne dc319_2.1.2.1 rfl (fun z => absurd z (by decide)) (fun _ => ?_)
          refine am_s_iconst am_cc0 dc319_2.1.2.2 ?_
          exact am_s_ireturn dc319_2.2.1.1 rfl ((vi_t (vi_f (vi_f (vi_f q c1) c2) c3) c4))
        · refine am_s_iconst am_cc1 dc190_0.2.2.1 ?_
          refine am_s_goto rfl dc190_0.2.2.2 ?_
          refine am_s_zreturn dc190_1.2 rfl (by decide) (am_bkI ?_)
          refine am_s_if_eq dc319_1.1.2.2 rfl (fun z => absurd z (by decide)) (fun _ => ?_)
          refine am_s_iconst am_cc1 dc319_1.2.1.1 ?_
          refine am_s_goto rfl dc319_1.2.1.2 ?_
          refine am_s_iconst am_cc1 dc319_1.2.2.2 ?_
          refine am_s_iconst am_cc1 dc319_2.1.1.1 ?_
          refine am_s_virtual true dc319_2.1.1.2 rfl (by decide) rfl rfl rfl (am_mth_of rfl rfl ?_)
          refine am_s_iload_n rfl dc189_0.1.1.1 ?_
          refine am_s_if_ne dc189_0.1.1.2 rfl (fun _ => ?_) (fun z => absurd z (by decide))
          refine am_s_aload_n rfl dc189_2.1.1 ?_
          refine am_x_getI (x := 0) dc189_2.1.2.1 rfl rfl (Or.inl rfl) rfl ?_
          refine am_s_if_ne dc189_2.1.2.2 rfl (fun z => absurd z (by decide)) (fun _ => ?_)
          refine am_s_iconst am_cc1 dc189_2.2.1.1 ?_
          refine am_s_goto rfl dc189_2.2.1.2 ?_
          refine am_s_zreturn dc189_2.2.2.2 rfl (by decide) (am_bkI ?_)
          refine am_s_if_ne dc319_2.1.2.1 rfl (fun _ => ?_) (fun z => absurd z (by decide))
          refine am_s_aload_n rfl dc319_2.2.1.2 ?_
          exact am_s_virtual true dc319_2.2.2.1 rfl (by decide) rfl rfl rfl ((vi_f (vi_f (vi_f (vi_f q c1) c2) c3) c4))
theorem v319_55 {sc : Option (Nat × (Nat → Int32))} {d k n : Nat} {P : am_O → Prop} {I : am_I} {J : am_J} {Pf : am_R} (hp : am_PF Pf) {l1 : Option Value} {x2 : Int32} {x3 : Int32} {x4 : Int32} {x5 : Int32} {x6 : Int32} (q : (if x2 ≤ x6 then (if x3 = 0 then (P (.inl (some (.int (I 181 0))), (am_SH, I, J, Pf), k, n)) else (if x3 = 1 then (am_mth d 272 [.ref 163] (am_SH, I, J, Pf) (am_af sc d 319 119 [some (.ref 163), l1, some (.int x2), some (.int x3), some (.int x4), some (.int x5), some (.int x6)] [.ref 163] [] (am_SH, I, J, Pf) k n true P)) else (if x3 = 2 then (P (.inl (some (.int x4)), (am_SH, I, J, Pf), k, n)) else (P (.inl (some (.int x5)), (am_SH, I, J, Pf), k, n))))) else (am_mth d 317 [.ref 163] (am_SH, I, J, Pf) (am_af sc d 319 64 [some (.ref 163), l1, some (.int x2), some (.int x3), some (.int x4), some (.int x5), some (.int x6)] [.ref 163, .int x4] [.int x4] (am_SH, I, J, Pf) k n true P)))) : am_go sc d 319 (55, [some (.ref 163), l1, some (.int x2), some (.int x3), some (.int x4), some (.int x5), some (.int x6)], [], (am_SH, I, J, Pf), k, n) P := by
  refine am_s_iload rfl dc319_4.1.1.1 ?_
  refine am_s_iload_n rfl dc319_4.1.1.2 ?_
  refine am_s_ic_ge dc319_4.1.2.1 rfl (fun c1 => ?_) (fun c1 => ?_)
  · refine am_s_iload_n rfl dc319_7.1.1.1 ?_
    refine am_s_if_ne dc319_7.1.1.2 rfl (fun c2 => ?_) (fun c2 => ?_)
    · refine am_s_iload_n rfl dc319_7.2.2.2 ?_
      refine am_s_iconst am_cc1 dc319_8.1.1.1 ?_
      refine am_s_ic_ne dc319_8.1.1.2 rfl (fun c3 => ?_) (fun c3 => ?_)
      · refine am_s_iload_n rfl dc319_8.2.1.2 ?_
        refine am_s_iconst am_cc2 dc319_8.2.2.1 ?_
        refine am_s_ic_ne dc319_8.2.2.2 rfl (fun c4 => ?_) (fun c4 => ?_)
        · refine am_s_iload rfl dc319_9.2.1 ?_
          exact am_s_ireturn dc319_9.2.2 rfl ((vi_f (vi_f (vi_f (vi_t q c1) c2) c3) c4))
        · refine am_s_iload rfl dc319_9.1.1 ?_
          refine am_s_goto rfl dc319_9.1.2 ?_
          exact am_s_ireturn dc319_9.2.2 rfl ((vi_t (vi_f (vi_f (vi_t q c1) c2) c3) (Decidable.not_not.mp c4)))
      · refine am_s_aload_n rfl dc319_8.1.2.1 ?_
        exact am_s_virtual true dc319_8.1.2.2 rfl (by decide) rfl rfl rfl ((vi_t (vi_f (vi_t q c1) c2) (Decidable.not_not.mp c3)))
    · refine am_s_aload_n rfl dc319_7.1.2.1 ?_
      refine am_s_getR (r := 181) dc319_7.1.2.2 rfl rfl rfl (hp _ _ _ rfl) ?_
      refine am_s_iconst am_cc0 dc319_7.2.1.1 ?_
      refine am_x_iaload (x := I 181 0) dc319_7.2.1.2 rfl (by decide +kernel) am_cN0 rfl ?_
      refine am_s_goto rfl dc319_7.2.2.1 ?_
      exact am_s_ireturn dc319_9.2.2 rfl ((vi_t (vi_t q c1) (Decidable.not_not.mp c2)))
  · refine am_s_iload rfl dc319_4.1.2.2 ?_
    refine am_s_aload_n rfl dc319_4.2.1.1 ?_
    exact am_s_virtual true dc319_4.2.1.2 rfl (by decide) rfl rfl rfl ((vi_f q c1))
theorem v319_41 {sc : Option (Nat × (Nat → Int32))} {d k n : Nat} {P : am_O → Prop} {I : am_I} {J : am_J} {Pf : am_R} (hp : am_PF Pf) {x1 : Int32} {x2 : Int32} {x3 : Int32} {l4 : Option Value} {l5 : Option Value} {l6 : Option Value} (q : (am_go sc d 319 (55, [some (.ref 163), some (.int x1), some (.int x2), some (.int x3), some (.int 0), some (.int 0), some (.int 0)], [], (am_SH, am_u I 163 62 x1, J, Pf), k, n) P)) : am_go sc d 319 (41, [some (.ref 163), some (.int x1), some (.int x2), some (.int x3), l4, l5, l6], [], (am_SH, I, J, Pf), k, n) P := by
  refine am_s_aload_n rfl dc319_2.2.2.2 ?_
  refine am_s_iload_n rfl dc319_3.1.1.1 ?_
  refine am_s_putI dc319_3.1.1.2 rfl rfl rfl rfl ?_
  refine am_s_iconst am_cc0 dc319_3.1.2.1 ?_
  refine am_s_istore (ls' := [some (.ref 163), some (.int x1), some (.int x2), some (.int x3), some (.int 0), l5, l6]) rfl rfl dc319_3.1.2.2 ?_
  refine am_s_iconst am_cc0 dc319_3.2.1.1 ?_
  refine am_s_istore (ls' := [some (.ref 163), some (.int x1), some (.int x2), some (.int x3), some (.int 0), some (.int 0), l6]) rfl rfl dc319_3.2.1.2 ?_
  refine am_s_iconst am_cc0 dc319_3.2.2.1 ?_
  refine am_s_istore (ls' := [some (.ref 163), some (.int x1), some (.int x2), some (.int x3), some (.int 0), some (.int 0), some (.int 0)]) rfl rfl dc319_3.2.2.2 ?_
  exact q
theorem v319_67 {sc : Option (Nat × (Nat → Int32))} {d k n : Nat} {P : am_O → Prop} {I : am_I} {J : am_J} {Pf : am_R} (hp : am_PF Pf) {l1 : Option Value} {x2 : Int32} {x3 : Int32} {l4 : Option Value} {x5 : Int32} {x6 : Int32} {s0 : Int32} {s1 : Int32} (q : (if s1 = 0 then (if x3 = 3 then (am_mth d 272 [.ref 163] (am_SH, I, J, Pf) (am_af sc d 319 86 [some (.ref 163), l1, some (.int x2), some (.int x3), some (.int (s0 + 1)), some (.int x5), some (.int x6)] [.ref 163, .int x5] [.int x5] (am_SH, I, J, Pf) k n true P)) else (am_go sc d 319 (55, [some (.ref 163), l1, some (.int x2), some (.int x3), some (.int (s0 + 1)), some (.int x5), some (.int (x6 + 1))], [], (am_SH, I, J, Pf), k, n) P)) else (if x3 = 3 then (am_mth d 272 [.ref 163] (am_SH, I, J, Pf) (am_af sc d 319 86 [some (.ref 163), l1, some (.int x2), some (.int x3), some (.int (s0 + 0)), some (.int x5), some (.int x6)] [.ref 163, .int x5] [.int x5] (am_SH, I, J, Pf) k n true P)) else (am_go sc d 319 (55, [some (.ref 163), l1, some (.int x2), some (.int x3), some (.int (s0 + 0)), some (.int x5), some (.int (x6 + 1))], [], (am_SH, I, J, Pf), k, n) P)))) : am_go sc d 319 (67, [some (.ref 163), l1, some (.int x2), some (.int x3), l4, some (.int x5), some (.int x6)], [.int s1, .int s0], (am_SH, I, J, Pf), k, n) P := by
  refine am_s_if_eq dc319_4.2.2.1 rfl (fun c1 => ?_) (fun c1 => ?_)
  · refine am_s_iconst am_cc1 dc319_5.1.1.2 ?_
    refine am_s_iadd dc319_5.1.2.1 ?_
    refine am_s_istore (ls' := [some (.ref 163), l1, some (.int x2), some (.int x3), some (.int (s0 + 1)), some (.int x5), some (.int x6)]) rfl rfl dc319_5.1.2.2 ?_
    refine am_s_iload_n rfl dc319_5.2.1.1 ?_
    refine am_s_iconst am_cc3 dc319_5.2.1.2 ?_
    refine am_s_ic_ne dc319_5.2.2.1 rfl (fun c2 => ?_) (fun c2 => ?_)
    · refine am_s_iinc (ls' := [some (.ref 163), l1, some (.int x2), some (.int x3), some (.int (s0 + 1)), some (.int x5), some (.int (x6 + 1))]) am_cc1 rfl rfl dc319_6.2.2.1 ?_
      refine am_s_goto rfl dc319_6.2.2.2 ?_
      exact (vi_f (vi_t q c1) c2)
    · refine am_s_iload rfl dc319_5.2.2.2 ?_
      refine am_s_aload_n rfl dc319_6.1.1.1 ?_
      exact am_s_virtual true dc319_6.1.1.2 rfl (by decide) rfl rfl rfl ((vi_t (vi_t q c1) (Decidable.not_not.mp c2)))
  · refine am_s_iconst am_cc0 dc319_4.2.2.2 ?_
    refine am_s_goto rfl dc319_5.1.1.1 ?_
    refine am_s_iadd dc319_5.1.2.1 ?_
    refine am_s_istore (ls' := [some (.ref 163), l1, some (.int x2), some (.int x3), some (.int (s0 + 0)), some (.int x5), some (.int x6)]) rfl rfl dc319_5.1.2.2 ?_
    refine am_s_iload_n rfl dc319_5.2.1.1 ?_
    refine am_s_iconst am_cc3 dc319_5.2.1.2 ?_
    refine am_s_ic_ne dc319_5.2.2.1 rfl (fun c2 => ?_) (fun c2 => ?_)
    · refine am_s_iinc (ls' := [some (.ref 163), l1, some (.int x2), some (.int x3), some (.int (s0 + 0)), some (.int x5), some (.int (x6 + 1))]) am_cc1 rfl rfl dc319_6.2.2.1 ?_
      refine am_s_goto rfl dc319_6.2.2.2 ?_
      exact (vi_f (vi_f q c1) c2)
    · refine am_s_iload rfl dc319_5.2.2.2 ?_
      refine am_s_aload_n rfl dc319_6.1.1.1 ?_
      exact am_s_virtual true dc319_6.1.1.2 rfl (by decide) rfl rfl rfl ((vi_t (vi_f q c1) (Decidable.not_not.mp c2)))
theorem v319_122 {sc : Option (Nat × (Nat → Int32))} {d k n : Nat} {P : am_O → Prop} {I : am_I} {J : am_J} {Pf : am_R} (hp : am_PF Pf) {l0 : Option Value} {l1 : Option Value} {l2 : Option Value} {l3 : Option Value} {l4 : Option Value} {l5 : Option Value} {l6 : Option Value} {s0 : Int32} (q : (P (.inl (some (.int s0)), (am_SH, I, J, Pf), k, n))) : am_go sc d 319 (122, [l0, l1, l2, l3, l4, l5, l6], [.int s0], (am_SH, I, J, Pf), k, n) P := by
  refine am_s_goto rfl dc319_8.2.1.1 ?_
  exact am_s_ireturn dc319_9.2.2 rfl (q)
theorem v319_89 {sc : Option (Nat × (Nat → Int32))} {d k n : Nat} {P : am_O → Prop} {I : am_I} {J : am_J} {Pf : am_R} (hp : am_PF Pf) {l1 : Option Value} {x2 : Int32} {x3 : Int32} {x4 : Int32} {l5 : Option Value} {x6 : Int32} {s0 : Int32} {s1 : Int32} (q : (am_go sc d 319 (55, [some (.ref 163), l1, some (.int x2), some (.int x3), some (.int x4), some (.int (s0 + (s1 &&& 1))), some (.int (x6 + 1))], [], (am_SH, I, J, Pf), k, n) P)) : am_go sc d 319 (89, [some (.ref 163), l1, some (.int x2), some (.int x3), some (.int x4), l5, some (.int x6)], [.int s1, .int s0], (am_SH, I, J, Pf), k, n) P := by
  refine am_s_iconst am_cc1 dc319_6.1.2.1 ?_
  refine am_s_iand dc319_6.1.2.2 ?_
  refine am_s_iadd dc319_6.2.1.1 ?_
  refine am_s_istore (ls' := [some (.ref 163), l1, some (.int x2), some (.int x3), some (.int x4), some (.int (s0 + (s1 &&& 1))), some (.int x6)]) rfl rfl dc319_6.2.1.2 ?_
  refine am_s_iinc (ls' := [some (.ref 163), l1, some (.int x2), some (.int x3), some (.int x4), some (.int (s0 + (s1 &&& 1))), some (.int (x6 + 1))]) am_cc1 rfl rfl dc319_6.2.2.1 ?_
  refine am_s_goto rfl dc319_6.2.2.2 ?_
  exact q
-- span (IIIII)I
theorem v320_0 {sc : Option (Nat × (Nat → Int32))} {d k n : Nat} {P : am_O → Prop} {I : am_I} {J : am_J} {Pf : am_R} (hp : am_PF Pf) {x1 : Int32} {x2 : Int32} {x3 : Int32} {x4 : Int32} {x5 : Int32} {l6 : Option Value} {l7 : Option Value} {l8 : Option Value} {l9 : Option Value} {l10 : Option Value} (q : (if x2 < 1 then (P (.inl (some (.int 0)), (am_SH, am_u (am_u (am_u I 163 0 0) 163 0 1) 164 1 ((I 164 1) + 1), J, Pf), k, n)) else (if 4 < x2 then (P (.inl (some (.int 0)), (am_SH, am_u (am_u (am_u I 163 0 0) 163 0 1) 164 1 ((I 164 1) + 1), J, Pf), k, n)) else (if x3 < 1 then (P (.inl (some (.int 0)), (am_SH, am_u (am_u (am_u I 163 0 0) 163 0 1) 164 1 ((I 164 1) + 1), J, Pf), k, n)) else (if 24 < x3 then (P (.inl (some (.int 0)), (am_SH, am_u (am_u (am_u I 163 0 0) 163 0 1) 164 1 ((I 164 1) + 1), J, Pf), k, n)) else (if x4 < 0 then (P (.inl (some (.int 0)), (am_SH, am_u (am_u (am_u I 163 0 0) 163 0 1) 164 1 ((I 164 1) + 1), J, Pf), k, n)) else (if 2 < x4 then (P (.inl (some (.int 0)), (am_SH, am_u (am_u (am_u I 163 0 0) 163 0 1) 164 1 ((I 164 1) + 1), J, Pf), k, n)) else (if x5 < 0 then (P (.inl (some (.int 0)), (am_SH, am_u (am_u (am_u I 163 0 0) 163 0 1) 164 1 ((I 164 1) + 1), J, Pf), k, n)) else (if 7 < x5 then (P (.inl (some (.int 0)), (am_SH, am_u (am_u (am_u I 163 0 0) 163 0 1) 164 1 ((I 164 1) + 1), J, Pf), k, n)) else (am_go sc (d + 1) 320 (70, [some (.ref 163), some (.int x1), some (.int x2), some (.int x3), some (.int x4), some (.int x5), some (.int (-1)), some (.int 0), some (.int 0), some (.int 0), l10], [], (am_SH, am_u I 163 0 0, J, Pf), k, n) P)))))))))) : am_go sc (d + 1) 320 (0, [some (.ref 163), some (.int x1), some (.int x2), some (.int x3), some (.int x4), some (.int x5), l6, l7, l8, l9, l10], [], (am_SH, I, J, Pf), k, n) P := by
  refine am_s_aload_n rfl dc320_0.1.1.1 ?_
  refine am_s_iconst am_cc0 dc320_0.1.1.2 ?_
  refine am_s_putI dc320_0.1.2.1 rfl rfl rfl rfl ?_
  refine am_s_aload_n rfl dc320_0.1.2.2 ?_
  refine am_s_iload_n rfl dc320_0.2.1.1 ?_
  refine am_s_iconst am_cc1 dc320_0.2.1.2 ?_
  refine am_s_iconst am_cc4 dc320_0.2.2.1 ?_
  refine am_s_static dc320_0.2.2.2 rfl rfl rfl (am_mth_of rfl rfl ?_)
  refine am_s_iload_n rfl dc190_0.1.1.1 ?_
  refine am_s_iload_n rfl dc190_0.1.1.2 ?_
  refine am_s_ic_lt dc190_0.1.2.1 rfl (fun c1 => ?_) (fun c1 => ?_)
  · refine am_s_iconst am_cc0 dc190_1.1 ?_
    refine am_s_zreturn dc190_1.2 rfl (by decide) (am_bkI ?_)
    refine am_s_if_eq dc320_1.1.1.1 rfl (fun _ => ?_) (fun z => absurd z (by decide))
    refine am_s_iconst am_cc0 dc320_3.1.1.1 ?_
    refine am_s_iconst am_cc1 dc320_3.1.1.2 ?_
    refine am_s_iconst am_cc1 dc320_3.1.2.1 ?_
    refine am_s_virtual true dc320_3.1.2.2 rfl (by decide) rfl rfl rfl (am_mth_of rfl rfl ?_)
    refine am_s_iload_n rfl dc189_0.1.1.1 ?_
    refine am_s_if_ne dc189_0.1.1.2 rfl (fun z => absurd z (by decide)) (fun _ => ?_)
    refine am_s_aload_n rfl dc189_0.1.2.1 ?_
    refine am_x_getI (x := 0) dc189_0.1.2.2 rfl rfl (Or.inl rfl) rfl ?_
    refine am_s_if_ne dc189_0.2.1.1 rfl (fun z => absurd z (by decide)) (fun _ => ?_)
    refine am_s_aload_n rfl dc189_0.2.1.2 ?_
    refine am_s_iload_n rfl dc189_0.2.2.1 ?_
    refine am_s_putI dc189_0.2.2.2 rfl rfl rfl rfl ?_
    refine am_s_aload_n rfl dc189_1.1.1.1 ?_
    refine am_s_getR (r := 164) dc189_1.1.1.2 rfl rfl rfl (hp _ _ _ rfl) ?_
    refine am_s_iload_n rfl dc189_1.1.2.1 ?_
    refine am_s_dup2 rfl rfl dc189_1.1.2.2 ?_
    refine am_x_iaload (x := I 164 1) dc189_1.2.1.1 rfl (by decide +kernel) am_cN1 rfl ?_
    refine am_s_iconst am_cc1 dc189_1.2.1.2 ?_
    refine am_s_iadd dc189_1.2.2.1 ?_
    refine am_s_iastore dc189_1.2.2.2 rfl (by decide +kernel) am_cN1 ?_
    refine am_s_aload_n rfl dc189_2.1.1 ?_
    refine am_x_getI (x := 1) dc189_2.1.2.1 rfl rfl (Or.inl rfl) rfl ?_
    refine am_s_if_ne dc189_2.1.2.2 rfl (fun _ => ?_) (fun z => absurd z (by decide))
    refine am_s_iconst am_cc0 dc189_2.2.2.1 ?_
    refine am_s_zreturn dc189_2.2.2.2 rfl (by decide) (am_bkI ?_)
    refine am_s_if_ne dc320_3.2.1.1 rfl (fun z => absurd z (by decide)) (fun _ => ?_)
    refine am_s_iconst am_cc0 dc320_3.2.1.2 ?_
    exact am_s_ireturn dc320_3.2.2.1 rfl ((vi_t q c1))
  · refine am_s_iload_n rfl dc190_0.1.2.2 ?_
    refine am_s_iload_n rfl dc190_0.2.1.1 ?_
    refine am_s_ic_gt dc190_0.2.1.2 rfl (fun c2 => ?_) (fun c2 => ?_)
    · refine am_s_iconst am_cc0 dc190_1.1 ?_
      refine am_s_zreturn dc190_1.2 rfl (by decide) (am_bkI ?_)
      refine am_s_if_eq dc320_1.1.1.1 rfl (fun _ => ?_) (fun z => absurd z (by decide))
      refine am_s_iconst am_cc0 dc320_3.1.1.1 ?_
      refine am_s_iconst am_cc1 dc320_3.1.1.2 ?_
      refine am_s_iconst am_cc1 dc320_3.1.2.1 ?_
      refine am_s_virtual true dc320_3.1.2.2 rfl (by decide) rfl rfl rfl (am_mth_of rfl rfl ?_)
      refine am_s_iload_n rfl dc189_0.1.1.1 ?_
      refine am_s_if_ne dc189_0.1.1.2 rfl (fun z => absurd z (by decide)) (fun _ => ?_)
      refine am_s_aload_n rfl dc189_0.1.2.1 ?_
      refine am_x_getI (x := 0) dc189_0.1.2.2 rfl rfl (Or.inl rfl) rfl ?_
      refine am_s_if_ne dc189_0.2.1.1 rfl (fun z => absurd z (by decide)) (fun _ => ?_)
      refine am_s_aload_n rfl dc189_0.2.1.2 ?_
      refine am_s_iload_n rfl dc189_0.2.2.1 ?_
      refine am_s_putI dc189_0.2.2.2 rfl rfl rfl rfl ?_
      refine am_s_aload_n rfl dc189_1.1.1.1 ?_
      refine am_s_getR (r := 164) dc189_1.1.1.2 rfl rfl rfl (hp _ _ _ rfl) ?_
      refine am_s_iload_n rfl dc189_1.1.2.1 ?_
      refine am_s_dup2 rfl rfl dc189_1.1.2.2 ?_
      refine am_x_iaload (x := I 164 1) dc189_1.2.1.1 rfl (by decide +kernel) am_cN1 rfl ?_
      refine am_s_iconst am_cc1 dc189_1.2.1.2 ?_
      refine am_s_iadd dc189_1.2.2.1 ?_
      refine am_s_iastore dc189_1.2.2.2 rfl (by decide +kernel) am_cN1 ?_
      refine am_s_aload_n rfl dc189_2.1.1 ?_
      refine am_x_getI (x := 1) dc189_2.1.2.1 rfl rfl (Or.inl rfl) rfl ?_
      refine am_s_if_ne dc189_2.1.2.2 rfl (fun _ => ?_) (fun z => absurd z (by decide))
      refine am_s_iconst am_cc0 dc189_2.2.2.1 ?_
      refine am_s_zreturn dc189_2.2.2.2 rfl (by decide) (am_bkI ?_)
      refine am_s_if_ne dc320_3.2.1.1 rfl (fun z => absurd z (by decide)) (fun _ => ?_)
      refine am_s_iconst am_cc0 dc320_3.2.1.2 ?_
      exact am_s_ireturn dc320_3.2.2.1 rfl ((vi_t (vi_f q c1) c2))
    · refine am_s_iconst am_cc1 dc190_0.2.2.1 ?_
      refine am_s_goto rfl dc190_0.2.2.2 ?_
      refine am_s_zreturn dc190_1.2 rfl (by decide) (am_bkI ?_)
      refine am_s_if_eq dc320_1.1.1.1 rfl (fun z => absurd z (by decide)) (fun _ => ?_)
      refine am_s_iload_n rfl dc320_1.1.1.2 ?_
      refine am_s_static dc320_1.1.2.1 rfl rfl rfl (am_mth_of rfl rfl ?_)
      refine am_s_iload_n rfl dc318_0.1.1.1 ?_
      refine am_s_iconst am_cc1 dc318_0.1.1.2 ?_
      refine am_s_ic_lt dc318_0.1.2.1 rfl (fun c3 => ?_) (fun c3 => ?_)
      · refine am_s_iconst am_cc0 dc318_1.1 ?_
        refine am_s_zreturn dc318_1.2 rfl (by decide) (am_bkI ?_)
        refine am_s_if_eq dc320_1.1.2.2 rfl (fun _ => ?_) (fun z => absurd z (by decide))
        refine am_s_iconst am_cc0 dc320_3.1.1.1 ?_
        refine am_s_iconst am_cc1 dc320_3.1.1.2 ?_
        refine am_s_iconst am_cc1 dc320_3.1.2.1 ?_
        refine am_s_virtual true dc320_3.1.2.2 rfl (by decide) rfl rfl rfl (am_mth_of rfl rfl ?_)
        refine am_s_iload_n rfl dc189_0.1.1.1 ?_
        refine am_s_if_ne dc189_0.1.1.2 rfl (fun z => absurd z (by decide)) (fun _ => ?_)
        refine am_s_aload_n rfl dc189_0.1.2.1 ?_
        refine am_x_getI (x := 0) dc189_0.1.2.2 rfl rfl (Or.inl rfl) rfl ?_
        refine am_s_if_ne dc189_0.2.1.1 rfl (fun z => absurd z (by decide)) (fun _ => ?_)
        refine am_s_aload_n rfl dc189_0.2.1.2 ?_
        refine am_s_iload_n rfl dc189_0.2.2.1 ?_
        refine am_s_putI dc189_0.2.2.2 rfl rfl rfl rfl ?_
        refine am_s_aload_n rfl dc189_1.1.1.1 ?_
        refine am_s_getR (r := 164) dc189_1.1.1.2 rfl rfl rfl (hp _ _ _ rfl) ?_
        refine am_s_iload_n rfl dc189_1.1.2.1 ?_
        refine am_s_dup2 rfl rfl dc189_1.1.2.2 ?_
        refine am_x_iaload (x := I 164 1) dc189_1.2.1.1 rfl (by decide +kernel) am_cN1 rfl ?_
        refine am_s_iconst am_cc1 dc189_1.2.1.2 ?_
        refine am_s_iadd dc189_1.2.2.1 ?_
        refine am_s_iastore dc189_1.2.2.2 rfl (by decide +kernel) am_cN1 ?_
        refine am_s_aload_n rfl dc189_2.1.1 ?_
        refine am_x_getI (x := 1) dc189_2.1.2.1 rfl rfl (Or.inl rfl) rfl ?_
        refine am_s_if_ne dc189_2.1.2.2 rfl (fun _ => ?_) (fun z => absurd z (by decide))
        refine am_s_iconst am_cc0 dc189_2.2.2.1 ?_
        refine am_s_zreturn dc189_2.2.2.2 rfl (by decide) (am_bkI ?_)
        refine am_s_if_ne dc320_3.2.1.1 rfl (fun z => absurd z (by decide)) (fun _ => ?_)
        refine am_s_iconst am_cc0 dc320_3.2.1.2 ?_
        exact am_s_ireturn dc320_3.2.2.1 rfl ((vi_t (vi_f (vi_f q c1) c2) c3))
      · refine am_s_iload_n rfl dc318_0.1.2.2 ?_
        refine am_s_bipush am_cb24 dc318_0.2.1.1 ?_
        refine am_s_ic_gt dc318_0.2.1.2 rfl (fun c4 => ?_) (fun c4 => ?_)
        · refine am_s_iconst am_cc0 dc318_1.1 ?_
          refine am_s_zreturn dc318_1.2 rfl (by decide) (am_bkI ?_)
          refine am_s_if_eq dc320_1.1.2.2 rfl (fun _ => ?_) (fun z => absurd z (by decide))
          refine am_s_iconst am_cc0 dc320_3.1.1.1 ?_
          refine am_s_iconst am_cc1 dc320_3.1.1.2 ?_
          refine am_s_iconst am_cc1 dc320_3.1.2.1 ?_
          refine am_s_virtual true dc320_3.1.2.2 rfl (by decide) rfl rfl rfl (am_mth_of rfl rfl ?_)
          refine am_s_iload_n rfl dc189_0.1.1.1 ?_
          refine am_s_if_ne dc189_0.1.1.2 rfl (fun z => absurd z (by decide)) (fun _ => ?_)
          refine am_s_aload_n rfl dc189_0.1.2.1 ?_
          refine am_x_getI (x := 0) dc189_0.1.2.2 rfl rfl (Or.inl rfl) rfl ?_
          refine am_s_if_ne dc189_0.2.1.1 rfl (fun z => absurd z (by decide)) (fun _ => ?_)
          refine am_s_aload_n rfl dc189_0.2.1.2 ?_
          refine am_s_iload_n rfl dc189_0.2.2.1 ?_
          refine am_s_putI dc189_0.2.2.2 rfl rfl rfl rfl ?_
          refine am_s_aload_n rfl dc189_1.1.1.1 ?_
          refine am_s_getR (r := 164) dc189_1.1.1.2 rfl rfl rfl (hp _ _ _ rfl) ?_
          refine am_s_iload_n rfl dc189_1.1.2.1 ?_
          refine am_s_dup2 rfl rfl dc189_1.1.2.2 ?_
          refine am_x_iaload (x := I 164 1) dc189_1.2.1.1 rfl (by decide +kernel) am_cN1 rfl ?_
          refine am_s_iconst am_cc1 dc189_1.2.1.2 ?_
          refine am_s_iadd dc189_1.2.2.1 ?_
          refine am_s_iastore dc189_1.2.2.2 rfl (by decide +kernel) am_cN1 ?_
          refine am_s_aload_n rfl dc189_2.1.1 ?_
          refine am_x_getI (x := 1) dc189_2.1.2.1 rfl rfl (Or.inl rfl) rfl ?_
          refine am_s_if_ne dc189_2.1.2.2 rfl (fun _ => ?_) (fun z => absurd z (by decide))
          refine am_s_iconst am_cc0 dc189_2.2.2.1 ?_
          refine am_s_zreturn dc189_2.2.2.2 rfl (by decide) (am_bkI ?_)
          refine am_s_if_ne dc320_3.2.1.1 rfl (fun z => absurd z (by decide)) (fun _ => ?_)
          refine am_s_iconst am_cc0 dc320_3.2.1.2 ?_
          exact am_s_ireturn dc320_3.2.2.1 rfl ((vi_t (vi_f (vi_f (vi_f q c1) c2) c3) c4))
        · refine am_s_iconst am_cc1 dc318_0.2.2.1 ?_
          refine am_s_goto rfl dc318_0.2.2.2 ?_
          refine am_s_zreturn dc318_1.2 rfl (by decide) (am_bkI ?_)
          refine am_s_if_eq dc320_1.1.2.2 rfl (fun z => absurd z (by decide)) (fun _ => ?_)
          refine am_s_iload rfl dc320_1.2.1.1 ?_
          refine am_s_iconst am_cc0 dc320_1.2.1.2 ?_
          refine am_s_iconst am_cc2 dc320_1.2.2.1 ?_
          refine am_s_static dc320_1.2.2.2 rfl rfl rfl (am_mth_of rfl rfl ?_)
          refine am_s_iload_n rfl dc190_0.1.1.1 ?_
          refine am_s_iload_n rfl dc190_0.1.1.2 ?_
          refine am_s_ic_lt dc190_0.1.2.1 rfl (fun c5 => ?_) (fun c5 => ?_)
          · refine am_s_iconst am_cc0 dc190_1.1 ?_
            refine am_s_zreturn dc190_1.2 rfl (by decide) (am_bkI ?_)
            refine am_s_if_eq dc320_2.1.1.1 rfl (fun _ => ?_) (fun z => absurd z (by decide))
            refine am_s_iconst am_cc0 dc320_3.1.1.1 ?_
            refine am_s_iconst am_cc1 dc320_3.1.1.2 ?_
            refine am_s_iconst am_cc1 dc320_3.1.2.1 ?_
            refine am_s_virtual true dc320_3.1.2.2 rfl (by decide) rfl rfl rfl (am_mth_of rfl rfl ?_)
            refine am_s_iload_n rfl dc189_0.1.1.1 ?_
            refine am_s_if_ne dc189_0.1.1.2 rfl (fun z => absurd z (by decide)) (fun _ => ?_)
            refine am_s_aload_n rfl dc189_0.1.2.1 ?_
            refine am_x_getI (x := 0) dc189_0.1.2.2 rfl rfl (Or.inl rfl) rfl ?_
            refine am_s_if_ne dc189_0.2.1.1 rfl (fun z => absurd z (by decide)) (fun _ => ?_)
            refine am_s_aload_n rfl dc189_0.2.1.2 ?_
            refine am_s_iload_n rfl dc189_0.2.2.1 ?_
            refine am_s_putI dc189_0.2.2.2 rfl rfl rfl rfl ?_
            refine am_s_aload_n rfl dc189_1.1.1.1 ?_
            refine am_s_getR (r := 164) dc189_1.1.1.2 rfl rfl rfl (hp _ _ _ rfl) ?_
            refine am_s_iload_n rfl dc189_1.1.2.1 ?_
            refine am_s_dup2 rfl rfl dc189_1.1.2.2 ?_
            refine am_x_iaload (x := I 164 1) dc189_1.2.1.1 rfl (by decide +kernel) am_cN1 rfl ?_
            refine am_s_iconst am_cc1 dc189_1.2.1.2 ?_
            refine am_s_iadd dc189_1.2.2.1 ?_
            refine am_s_iastore dc189_1.2.2.2 rfl (by decide +kernel) am_cN1 ?_
            refine am_s_aload_n rfl dc189_2.1.1 ?_
            refine am_x_getI (x := 1) dc189_2.1.2.1 rfl rfl (Or.inl rfl) rfl ?_
            refine am_s_if_ne dc189_2.1.2.2 rfl (fun _ => ?_) (fun z => absurd z (by decide))
            refine am_s_iconst am_cc0 dc189_2.2.2.1 ?_
            refine am_s_zreturn dc189_2.2.2.2 rfl (by decide) (am_bkI ?_)
            refine am_s_if_ne dc320_3.2.1.1 rfl (fun z => absurd z (by decide)) (fun _ => ?_)
            refine am_s_iconst am_cc0 dc320_3.2.1.2 ?_
            exact am_s_ireturn dc320_3.2.2.1 rfl ((vi_t (vi_f (vi_f (vi_f (vi_f q c1) c2) c3) c4) c5))
          · refine am_s_iload_n rfl dc190_0.1.2.2 ?_
            refine am_s_iload_n rfl dc190_0.2.1.1 ?_
            refine am_s_ic_gt dc190_0.2.1.2 rfl (fun c6 => ?_) (fun c6 => ?_)
            · refine am_s_iconst am_cc0 dc190_1.1 ?_
              refine am_s_zreturn dc190_1.2 rfl (by decide) (am_bkI ?_)
              refine am_s_if_eq dc320_2.1.1.1 rfl (fun _ => ?_) (fun z => absurd z (by decide))
              refine am_s_iconst am_cc0 dc320_3.1.1.1 ?_
              refine am_s_iconst am_cc1 dc320_3.1.1.2 ?_
              refine am_s_iconst am_cc1 dc320_3.1.2.1 ?_
              refine am_s_virtual true dc320_3.1.2.2 rfl (by decide) rfl rfl rfl (am_mth_of rfl rfl ?_)
              refine am_s_iload_n rfl dc189_0.1.1.1 ?_
              refine am_s_if_ne dc189_0.1.1.2 rfl (fun z => absurd z (by decide)) (fun _ => ?_)
              refine am_s_aload_n rfl dc189_0.1.2.1 ?_
              refine am_x_getI (x := 0) dc189_0.1.2.2 rfl rfl (Or.inl rfl) rfl ?_
              refine am_s_if_ne dc189_0.2.1.1 rfl (fun z => absurd z (by decide)) (fun _ => ?_)
              refine am_s_aload_n rfl dc189_0.2.1.2 ?_
              refine am_s_iload_n rfl dc189_0.2.2.1 ?_
              refine am_s_putI dc189_0.2.2.2 rfl rfl rfl rfl ?_
              refine am_s_aload_n rfl dc189_1.1.1.1 ?_
              refine am_s_getR (r := 164) dc189_1.1.1.2 rfl rfl rfl (hp _ _ _ rfl) ?_
              refine am_s_iload_n rfl dc189_1.1.2.1 ?_
              refine am_s_dup2 rfl rfl dc189_1.1.2.2 ?_
              refine am_x_iaload (x := I 164 1) dc189_1.2.1.1 rfl (by decide +kernel) am_cN1 rfl ?_
              refine am_s_iconst am_cc1 dc189_1.2.1.2 ?_
              refine am_s_iadd dc189_1.2.2.1 ?_
              refine am_s_iastore dc189_1.2.2.2 rfl (by decide +kernel) am_cN1 ?_
              refine am_s_aload_n rfl dc189_2.1.1 ?_
              refine am_x_getI (x := 1) dc189_2.1.2.1 rfl rfl (Or.inl rfl) rfl ?_
              refine am_s_if_ne dc189_2.1.2.2 rfl (fun _ => ?_) (fun z => absurd z (by decide))
              refine am_s_iconst am_cc0 dc189_2.2.2.1 ?_
              refine am_s_zreturn dc189_2.2.2.2 rfl (by decide) (am_bkI ?_)
              refine am_s_if_ne dc320_3.2.1.1 rfl (fun z => absurd z (by decide)) (fun _ => ?_)
              refine am_s_iconst am_cc0 dc320_3.2.1.2 ?_
              exact am_s_ireturn dc320_3.2.2.1 rfl ((vi_t (vi_f (vi_f (vi_f (vi_f (vi_f q c1) c2) c3) c4) c5) c6))
            · refine am_s_iconst am_cc1 dc190_0.2.2.1 ?_
              refine am_s_goto rfl dc190_0.2.2.2 ?_
              refine am_s_zreturn dc190_1.2 rfl (by decide) (am_bkI ?_)
              refine am_s_if_eq dc320_2.1.1.1 rfl (fun z => absurd z (by decide)) (fun _ => ?_)
              refine am_s_iload rfl dc320_2.1.1.2 ?_
              refine am_s_iconst am_cc0 dc320_2.1.2.1 ?_
              refine am_s_bipush am_cb7 dc320_2.1.2.2 ?_
              refine am_s_static dc320_2.2.1.1 rfl rfl rfl (am_mth_of rfl rfl ?_)
              refine am_s_iload_n rfl dc190_0.1.1.1 ?_
              refine am_s_iload_n rfl dc190_0.1.1.2 ?_
              refine am_s_ic_lt dc190_0.1.2.1 rfl (fun c7 => ?_) (fun c7 => ?_)
              · refine am_s_iconst am_cc0 dc190_1.1 ?_
                refine am_s_zreturn dc190_1.2 rfl (by decide) (am_bkI ?_)
                refine am_s_if_eq dc320_2.2.1.2 rfl (fun _ => ?_) (fun z => absurd z (by decide))
                refine am_s_iconst am_cc0 dc320_3.1.1.1 ?_
                refine am_s_iconst am_cc1 dc320_3.1.1.2 ?_
                refine am_s_iconst am_cc1 dc320_3.1.2.1 ?_
                refine am_s_virtual true dc320_3.1.2.2 rfl (by decide) rfl rfl rfl (am_mth_of rfl rfl ?_)
                refine am_s_iload_n rfl dc189_0.1.1.1 ?_
                refine am_s_if_ne dc189_0.1.1.2 rfl (fun z => absurd z (by decide)) (fun _ => ?_)
                refine am_s_aload_n rfl dc189_0.1.2.1 ?_
                refine am_x_getI (x := 0) dc189_0.1.2.2 rfl rfl (Or.inl rfl) rfl ?_
                refine am_s_if_ne dc189_0.2.1.1 rfl (fun z => absurd z (by decide)) (fun _ => ?_)
                refine am_s_aload_n rfl dc189_0.2.1.2 ?_
                refine am_s_iload_n rfl dc189_0.2.2.1 ?_
                refine am_s_putI dc189_0.2.2.2 rfl rfl rfl rfl ?_
                refine am_s_aload_n rfl dc189_1.1.1.1 ?_
                refine am_s_getR (r := 164) dc189_1.1.1.2 rfl rfl rfl (hp _ _ _ rfl) ?_
                refine am_s_iload_n rfl dc189_1.1.2.1 ?_
                refine am_s_dup2 rfl rfl dc189_1.1.2.2 ?_
                refine am_x_iaload (x := I 164 1) dc189_1.2.1.1 rfl (by decide +kernel) am_cN1 rfl ?_
                refine am_s_iconst am_cc1 dc189_1.2.1.2 ?_
                refine am_s_iadd dc189_1.2.2.1 ?_
                refine am_s_iastore dc189_1.2.2.2 rfl (by decide +kernel) am_cN1 ?_
                refine am_s_aload_n rfl dc189_2.1.1 ?_
                refine am_x_getI (x := 1) dc189_2.1.2.1 rfl rfl (Or.inl rfl) rfl ?_
                refine am_s_if_ne dc189_2.1.2.2 rfl (fun _ => ?_) (fun z => absurd z (by decide))
                refine am_s_iconst am_cc0 dc189_2.2.2.1 ?_
                refine am_s_zreturn dc189_2.2.2.2 rfl (by decide) (am_bkI ?_)
                refine am_s_if_ne dc320_3.2.1.1 rfl (fun z => absurd z (by decide)) (fun _ => ?_)
                refine am_s_iconst am_cc0 dc320_3.2.1.2 ?_
                exact am_s_ireturn dc320_3.2.2.1 rfl ((vi_t (vi_f (vi_f (vi_f (vi_f (vi_f (vi_f q c1) c2) c3) c4) c5) c6) c7))
              · refine am_s_iload_n rfl dc190_0.1.2.2 ?_
                refine am_s_iload_n rfl dc190_0.2.1.1 ?_
                refine am_s_ic_gt dc190_0.2.1.2 rfl (fun c8 => ?_) (fun c8 => ?_)
                · refine am_s_iconst am_cc0 dc190_1.1 ?_
                  refine am_s_zreturn dc190_1.2 rfl (by decide) (am_bkI ?_)
                  refine am_s_if_eq dc320_2.2.1.2 rfl (fun _ => ?_) (fun z => absurd z (by decide))
                  refine am_s_iconst am_cc0 dc320_3.1.1.1 ?_
                  refine am_s_iconst am_cc1 dc320_3.1.1.2 ?_
                  refine am_s_iconst am_cc1 dc320_3.1.2.1 ?_
                  refine am_s_virtual true dc320_3.1.2.2 rfl (by decide) rfl rfl rfl (am_mth_of rfl rfl ?_)
                  refine am_s_iload_n rfl dc189_0.1.1.1 ?_
                  refine am_s_if_ne dc189_0.1.1.2 rfl (fun z => absurd z (by decide)) (fun _ => ?_)
                  refine am_s_aload_n rfl dc189_0.1.2.1 ?_
                  refine am_x_getI (x := 0) dc189_0.1.2.2 rfl rfl (Or.inl rfl) rfl ?_
                  refine am_s_if_ne dc189_0.2.1.1 rfl (fun z => absurd z (by decide)) (fun _ => ?_)
                  refine am_s_aload_n rfl dc189_0.2.1.2 ?_
                  refine am_s_iload_n rfl dc189_0.2.2.1 ?_
                  refine am_s_putI dc189_0.2.2.2 rfl rfl rfl rfl ?_
                  refine am_s_aload_n rfl dc189_1.1.1.1 ?_
                  refine am_s_getR (r := 164) dc189_1.1.1.2 rfl rfl rfl (hp _ _ _ rfl) ?_
                  refine am_s_iload_n rfl dc189_1.1.2.1 ?_
                  refine am_s_dup2 rfl rfl dc189_1.1.2.2 ?_
                  refine am_x_iaload (x := I 164 1) dc189_1.2.1.1 rfl (by decide +kernel) am_cN1 rfl ?_
                  refine am_s_iconst am_cc1 dc189_1.2.1.2 ?_
                  refine am_s_iadd dc189_1.2.2.1 ?_
                  refine am_s_iastore dc189_1.2.2.2 rfl (by decide +kernel) am_cN1 ?_
                  refine am_s_aload_n rfl dc189_2.1.1 ?_
                  refine am_x_getI (x := 1) dc189_2.1.2.1 rfl rfl (Or.inl rfl) rfl ?_
                  refine am_s_if_ne dc189_2.1.2.2 rfl (fun _ => ?_) (fun z => absurd z (by decide))
                  refine am_s_iconst am_cc0 dc189_2.2.2.1 ?_
                  refine am_s_zreturn dc189_2.2.2.2 rfl (by decide) (am_bkI ?_)
                  refine am_s_if_ne dc320_3.2.1.1 rfl (fun z => absurd z (by decide)) (fun _ => ?_)
                  refine am_s_iconst am_cc0 dc320_3.2.1.2 ?_
                  exact am_s_ireturn dc320_3.2.2.1 rfl ((vi_t (vi_f (vi_f (vi_f (vi_f (vi_f (vi_f (vi_f q c1) c2) c3) c4) c5) c6) c7) c8))
                · refine am_s_iconst am_cc1 dc190_0.2.2.1 ?_
                  refine am_s_goto rfl dc190_0.2.2.2 ?_
                  refine am_s_zreturn dc190_1.2 rfl (by decide) (am_bkI ?_)
                  refine am_s_if_eq dc320_2.2.1.2 rfl (fun z => absurd z (by decide)) (fun _ => ?_)
                  refine am_s_iconst am_cc1 dc320_2.2.2.1 ?_
                  refine am_s_goto rfl dc320_2.2.2.2 ?_
                  refine am_s_iconst am_cc1 dc320_3.1.1.2 ?_
                  refine am_s_iconst am_cc1 dc320_3.1.2.1 ?_
                  refine am_s_virtual true dc320_3.1.2.2 rfl (by decide) rfl rfl rfl (am_mth_of rfl rfl ?_)
                  refine am_s_iload_n rfl dc189_0.1.1.1 ?_
                  refine am_s_if_ne dc189_0.1.1.2 rfl (fun _ => ?_) (fun z => absurd z (by decide))
                  refine am_s_aload_n rfl dc189_2.1.1 ?_
                  refine am_x_getI (x := 0) dc189_2.1.2.1 rfl rfl (Or.inl rfl) rfl ?_
                  refine am_s_if_ne dc189_2.1.2.2 rfl (fun z => absurd z (by decide)) (fun _ => ?_)
                  refine am_s_iconst am_cc1 dc189_2.2.1.1 ?_
                  refine am_s_goto rfl dc189_2.2.1.2 ?_
                  refine am_s_zreturn dc189_2.2.2.2 rfl (by decide) (am_bkI ?_)
                  refine am_s_if_ne dc320_3.2.1.1 rfl (fun _ => ?_) (fun z => absurd z (by decide))
                  refine am_s_iconst am_ccm1 dc320_3.2.2.2 ?_
                  refine am_s_istore (ls' := [some (.ref 163), some (.int x1), some (.int x2), some (.int x3), some (.int x4), some (.int x5), some (.int (-1)), l7, l8, l9, l10]) rfl rfl dc320_4.1.1.1 ?_
                  refine am_s_iconst am_cc0 dc320_4.1.1.2 ?_
                  refine am_s_istore (ls' := [some (.ref 163), some (.int x1), some (.int x2), some (.int x3), some (.int x4), some (.int x5), some (.int (-1)), some (.int 0), l8, l9, l10]) rfl rfl dc320_4.1.2.1 ?_
                  refine am_s_iconst am_cc0 dc320_4.1.2.2 ?_
                  refine am_s_istore (ls' := [some (.ref 163), some (.int x1), some (.int x2), some (.int x3), some (.int x4), some (.int x5), some (.int (-1)), some (.int 0), some (.int 0), l9, l10]) rfl rfl dc320_4.2.1.1 ?_
                  refine am_s_iconst am_cc0 dc320_4.2.1.2 ?_
                  refine am_s_istore (ls' := [some (.ref 163), some (.int x1), some (.int x2), some (.int x3), some (.int x4), some (.int x5), some (.int (-1)), some (.int 0), some (.int 0), some (.int 0), l10]) rfl rfl dc320_4.2.2.1 ?_
                  exact (vi_f (vi_f (vi_f (vi_f (vi_f (vi_f (vi_f (vi_f q c1) c2) c3) c4) c5) c6) c7) c8)
theorem v320_70 {sc : Option (Nat × (Nat → Int32))} {d k n : Nat} {P : am_O → Prop} {I : am_I} {J : am_J} {Pf : am_R} (hp : am_PF Pf) {x1 : Int32} {x2 : Int32} {x3 : Int32} {x4 : Int32} {x5 : Int32} {x6 : Int32} {x7 : Int32} {x8 : Int32} {x9 : Int32} {l10 : Option Value} (q : (if x2 ≤ x9 then (if x4 = 0 then (P (.inl (some (.int x6)), (am_SH, I, J, Pf), k, n)) else (if x4 = 1 then (P (.inl (some (.int x7)), (am_SH, I, J, Pf), k, n)) else (P (.inl (some (.int x8)), (am_SH, I, J, Pf), k, n)))) else (am_mth d 273 [.ref 163] (am_SH, I, J, Pf) (am_af sc d 320 77 [some (.ref 163), some (.int x1), some (.int x2), some (.int x3), some (.int x4), some (.int x5), some (.int x6), some (.int x7), some (.int x8), some (.int x9), l10] [.ref 163] [] (am_SH, I, J, Pf) k n true P)))) : am_go sc d 320 (70, [some (.ref 163), some (.int x1), some (.int x2), some (.int x3), some (.int x4), some (.int x5), some (.int x6), some (.int x7), some (.int x8), some (.int x9), l10], [], (am_SH, I, J, Pf), k, n) P := by
  refine am_s_iload rfl dc320_4.2.2.2 ?_
  refine am_s_iload_n rfl dc320_5.1.1.1 ?_
  refine am_s_ic_ge dc320_5.1.1.2 rfl (fun c1 => ?_) (fun c1 => ?_)
  · refine am_s_iload rfl dc320_12.2.2.1 ?_
    refine am_s_if_ne dc320_12.2.2.2 rfl (fun c2 => ?_) (fun c2 => ?_)
    · refine am_s_iload rfl dc320_13.1.2.1 ?_
      refine am_s_iconst am_cc1 dc320_13.1.2.2 ?_
      refine am_s_ic_ne dc320_13.2.1.1 rfl (fun c3 => ?_) (fun c3 => ?_)
      · refine am_s_iload rfl dc320_13.2.2.2 ?_
        exact am_s_ireturn dc320_14 rfl ((vi_f (vi_f (vi_t q c1) c2) c3))
      · refine am_s_iload rfl dc320_13.2.1.2 ?_
        refine am_s_goto rfl dc320_13.2.2.1 ?_
        exact am_s_ireturn dc320_14 rfl ((vi_t (vi_f (vi_t q c1) c2) (Decidable.not_not.mp c3)))
    · refine am_s_iload rfl dc320_13.1.1.1 ?_
      refine am_s_goto rfl dc320_13.1.1.2 ?_
      exact am_s_ireturn dc320_14 rfl ((vi_t (vi_t q c1) (Decidable.not_not.mp c2)))
  · refine am_s_aload_n rfl dc320_5.1.2.1 ?_
    exact am_s_virtual true dc320_5.1.2.2 rfl (by decide) rfl rfl rfl ((vi_f q c1))
theorem v320_91 {sc : Option (Nat × (Nat → Int32))} {d k n : Nat} {P : am_O → Prop} {I : am_I} {J : am_J} {Pf : am_R} (hp : am_PF Pf) {x1 : Int32} {x2 : Int32} {x3 : Int32} {x4 : Int32} {x5 : Int32} {x6 : Int32} {x7 : Int32} {x8 : Int32} {x9 : Int32} {x10 : Int32} (q : (if x3 ≤ x10 then (if x6 = (-1) then (if (I 181 0) ≤ x7 then (if x4 = 2 then (am_mth d 272 [.ref 163] (am_SH, I, J, Pf) (am_af sc d 320 171 [some (.ref 163), some (.int x1), some (.int x2), some (.int x3), some (.int x4), some (.int x5), some (.int (I 181 0)), some (.int x7), some (.int x8), some (.int x9), some (.int x10)] [.ref 163, .int x8] [.int x8] (am_SH, I, J, Pf) k n true P)) else (am_go sc d 320 (70, [some (.ref 163), some (.int x1), some (.int x2), some (.int x3), some (.int x4), some (.int x5), some (.int (I 181 0)), some (.int x7), some (.int x8), some (.int (x9 + 1)), some (.int x10)], [], (am_SH, I, J, Pf), k, n) P)) else (if x4 = 2 then (am_mth d 272 [.ref 163] (am_SH, I, J, Pf) (am_af sc d 320 171 [some (.ref 163), some (.int x1), some (.int x2), some (.int x3), some (.int x4), some (.int x5), some (.int (I 181 0)), some (.int (I 181 0)), some (.int x8), some (.int x9), some (.int x10)] [.ref 163, .int x8] [.int x8] (am_SH, I, J, Pf) k n true P)) else (am_go sc d 320 (70, [some (.ref 163), some (.int x1), some (.int x2), some (.int x3), some (.int x4), some (.int x5), some (.int (I 181 0)), some (.int (I 181 0)), some (.int x8), some (.int (x9 + 1)), some (.int x10)], [], (am_SH, I, J, Pf), k, n) P))) else (if x6 ≤ (I 181 0) then (if (I 181 0) ≤ x7 then (if x4 = 2 then (am_mth d 272 [.ref 163] (am_SH, I, J, Pf) (am_af sc d 320 171 [some (.ref 163), some (.int x1), some (.int x2), some (.int x3), some (.int x4), some (.int x5), some (.int x6), some (.int x7), some (.int x8), some (.int x9), some (.int x10)] [.ref 163, .int x8] [.int x8] (am_SH, I, J, Pf) k n true P)) else (am_go sc d 320 (70, [some (.ref 163), some (.int x1), some (.int x2), some (.int x3), some (.int x4), some (.int x5), some (.int x6), some (.int x7), some (.int x8), some (.int (x9 + 1)), some (.int x10)], [], (am_SH, I, J, Pf), k, n) P)) else (if x4 = 2 then (am_mth d 272 [.ref 163] (am_SH, I, J, Pf) (am_af sc d 320 171 [some (.ref 163), some (.int x1), some (.int x2), some (.int x3), some (.int x4), some (.int x5), some (.int x6), some (.int (I 181 0)), some (.int x8), some (.int x9), some (.int x10)] [.ref 163, .int x8] [.int x8] (am_SH, I, J, Pf) k n true P)) else (am_go sc d 320 (70, [some (.ref 163), some (.int x1), some (.int x2), some (.int x3), some (.int x4), some (.int x5), some (.int x6), some (.int (I 181 0)), some (.int x8), some (.int (x9 + 1)), some (.int x10)], [], (am_SH, I, J, Pf), k, n) P))) else (if (I 181 0) ≤ x7 then (if x4 = 2 then (am_mth d 272 [.ref 163] (am_SH, I, J, Pf) (am_af sc d 320 171 [some (.ref 163), some (.int x1), some (.int x2), some (.int x3), some (.int x4), some (.int x5), some (.int (I 181 0)), some (.int x7), some (.int x8), some (.int x9), some (.int x10)] [.ref 163, .int x8] [.int x8] (am_SH, I, J, Pf) k n true P)) else (am_go sc d 320 (70, [some (.ref 163), some (.int x1), some (.int x2), some (.int x3), some (.int x4), some (.int x5), some (.int (I 181 0)), some (.int x7), some (.int x8), some (.int (x9 + 1)), some (.int x10)], [], (am_SH, I, J, Pf), k, n) P)) else (if x4 = 2 then (am_mth d 272 [.ref 163] (am_SH, I, J, Pf) (am_af sc d 320 171 [some (.ref 163), some (.int x1), some (.int x2), some (.int x3), some (.int x4), some (.int x5), some (.int (I 181 0)), some (.int (I 181 0)), some (.int x8), some (.int x9), some (.int x10)] [.ref 163, .int x8] [.int x8] (am_SH, I, J, Pf) k n true P)) else (am_go sc d 320 (70, [some (.ref 163), some (.int x1), some (.int x2), some (.int x3), some (.int x4), some (.int x5), some (.int (I 181 0)), some (.int (I 181 0)), some (.int x8), some (.int (x9 + 1)), some (.int x10)], [], (am_SH, I, J, Pf), k, n) P))))) else (am_mth d 317 [.ref 163] (am_SH, I, J, Pf) (am_af sc d 320 98 [some (.ref 163), some (.int x1), some (.int x2), some (.int x3), some (.int x4), some (.int x5), some (.int x6), some (.int x7), some (.int x8), some (.int x9), some (.int x10)] [.ref 163] [] (am_SH, I, J, Pf) k n true P)))) : am_go sc d 320 (91, [some (.ref 163), some (.int x1), some (.int x2), some (.int x3), some (.int x4), some (.int x5), some (.int x6), some (.int x7), some (.int x8), some (.int x9), some (.int x10)], [], (am_SH, I, J, Pf), k, n) P := by
  refine am_s_iload rfl dc320_6.1.2.2 ?_
  refine am_s_iload_n rfl dc320_6.2.1.1 ?_
  refine am_s_ic_ge dc320_6.2.1.2 rfl (fun c1 => ?_) (fun c1 => ?_)
  · refine am_s_iload rfl dc320_7.1.2.2 ?_
    refine am_s_iconst am_ccm1 dc320_7.2.1.1 ?_
    refine am_s_ic_eq dc320_7.2.1.2 rfl (fun c2 => ?_) (fun c2 => ?_)
    · refine am_s_aload_n rfl dc320_8.2.1.1 ?_
      refine am_s_getR (r := 181) dc320_8.2.1.2 rfl rfl rfl (hp _ _ _ rfl) ?_
      refine am_s_iconst am_cc0 dc320_8.2.2.1 ?_
      refine am_x_iaload (x := I 181 0) dc320_8.2.2.2 rfl (by decide +kernel) am_cN0 rfl ?_
      refine am_s_goto rfl dc320_9.1.1.1 ?_
      refine am_s_istore (ls' := [some (.ref 163), some (.int x1), some (.int x2), some (.int x3), some (.int x4), some (.int x5), some (.int (I 181 0)), some (.int x7), some (.int x8), some (.int x9), some (.int x10)]) rfl rfl dc320_9.1.2.1 ?_
      refine am_s_aload_n rfl dc320_9.1.2.2 ?_
      refine am_s_getR (r := 181) dc320_9.2.1.1 rfl rfl rfl (hp _ _ _ rfl) ?_
      refine am_s_iconst am_cc0 dc320_9.2.1.2 ?_
      refine am_x_iaload (x := I 181 0) dc320_9.2.2.1 rfl (by decide +kernel) am_cN0 rfl ?_
      refine am_s_iload rfl dc320_9.2.2.2 ?_
      refine am_s_ic_le dc320_10.1.1.1 rfl (fun c3 => ?_) (fun c3 => ?_)
      · refine am_s_iload rfl dc320_10.2.2.1 ?_
        refine am_s_istore (ls' := [some (.ref 163), some (.int x1), some (.int x2), some (.int x3), some (.int x4), some (.int x5), some (.int (I 181 0)), some (.int x7), some (.int x8), some (.int x9), some (.int x10)]) rfl rfl dc320_10.2.2.2 ?_
        refine am_s_iload rfl dc320_11.1.1.1 ?_
        refine am_s_iconst am_cc2 dc320_11.1.1.2 ?_
        refine am_s_ic_ne dc320_11.1.2.1 rfl (fun c4 => ?_) (fun c4 => ?_)
        · refine am_s_iinc (ls' := [some (.ref 163), some (.int x1), some (.int x2), some (.int x3), some (.int x4), some (.int x5), some (.int (I 181 0)), some (.int x7), some (.int x8), some (.int (x9 + 1)), some (.int x10)]) am_cc1 rfl rfl dc320_12.2.1.1 ?_
          refine am_s_goto rfl dc320_12.2.1.2 ?_
          exact (vi_f (vi_t (vi_t (vi_t q c1) c2) c3) c4)
        · refine am_s_iload rfl dc320_11.1.2.2 ?_
          refine am_s_aload_n rfl dc320_11.2.1.1 ?_
          exact am_s_virtual true dc320_11.2.1.2 rfl (by decide) rfl rfl rfl ((vi_t (vi_t (vi_t (vi_t q c1) c2) c3) (Decidable.not_not.mp c4)))
      · refine am_s_aload_n rfl dc320_10.1.1.2 ?_
        refine am_s_getR (r := 181) dc320_10.1.2.1 rfl rfl rfl (hp _ _ _ rfl) ?_
        refine am_s_iconst am_cc0 dc320_10.1.2.2 ?_
        refine am_x_iaload (x := I 181 0) dc320_10.2.1.1 rfl (by decide +kernel) am_cN0 rfl ?_
        refine am_s_goto rfl dc320_10.2.1.2 ?_
        refine am_s_istore (ls' := [some (.ref 163), some (.int x1), some (.int x2), some (.int x3), some (.int x4), some (.int x5), some (.int (I 181 0)), some (.int (I 181 0)), some (.int x8), some (.int x9), some (.int x10)]) rfl rfl dc320_10.2.2.2 ?_
        refine am_s_iload rfl dc320_11.1.1.1 ?_
        refine am_s_iconst am_cc2 dc320_11.1.1.2 ?_
        refine am_s_ic_ne dc320_11.1.2.1 rfl (fun c4 => ?_) (fun c4 => ?_)
        · refine am_s_iinc (ls' := [some (.ref 163), some (.int x1), some (.int x2), some (.int x3), some (.int x4), some (.int x5), some (.int (I 181 0)), some (.int (I 181 0)), some (.int x8), some (.int (x9 + 1)), some (.int x10)]) am_cc1 rfl rfl dc320_12.2.1.1 ?_
          refine am_s_goto rfl dc320_12.2.1.2 ?_
          exact (vi_f (vi_f (vi_t (vi_t q c1) c2) c3) c4)
        · refine am_s_iload rfl dc320_11.1.2.2 ?_
          refine am_s_aload_n rfl dc320_11.2.1.1 ?_
          exact am_s_virtual true dc320_11.2.1.2 rfl (by decide) rfl rfl rfl ((vi_t (vi_f (vi_t (vi_t q c1) c2) c3) (Decidable.not_not.mp c4)))
    · refine am_s_aload_n rfl dc320_7.2.2.1 ?_
      refine am_s_getR (r := 181) dc320_7.2.2.2 rfl rfl rfl (hp _ _ _ rfl) ?_
      refine am_s_iconst am_cc0 dc320_8.1.1.1 ?_
      refine am_x_iaload (x := I 181 0) dc320_8.1.1.2 rfl (by decide +kernel) am_cN0 rfl ?_
      refine am_s_iload rfl dc320_8.1.2.1 ?_
      refine am_s_ic_ge dc320_8.1.2.2 rfl (fun c3 => ?_) (fun c3 => ?_)
      · refine am_s_iload rfl dc320_9.1.1.2 ?_
        refine am_s_istore (ls' := [some (.ref 163), some (.int x1), some (.int x2), some (.int x3), some (.int x4), some (.int x5), some (.int x6), some (.int x7), some (.int x8), some (.int x9), some (.int x10)]) rfl rfl dc320_9.1.2.1 ?_
        refine am_s_aload_n rfl dc320_9.1.2.2 ?_
        refine am_s_getR (r := 181) dc320_9.2.1.1 rfl rfl rfl (hp _ _ _ rfl) ?_
        refine am_s_iconst am_cc0 dc320_9.2.1.2 ?_
        refine am_x_iaload (x := I 181 0) dc320_9.2.2.1 rfl (by decide +kernel) am_cN0 rfl ?_
        refine am_s_iload rfl dc320_9.2.2.2 ?_
        refine am_s_ic_le dc320_10.1.1.1 rfl (fun c4 => ?_) (fun c4 => ?_)
        · refine am_s_iload rfl dc320_10.2.2.1 ?_
          refine am_s_istore (ls' := [some (.ref 163), some (.int x1), some (.int x2), some (.int x3), some (.int x4), some (.int x5), some (.int x6), some (.int x7), some (.int x8), some (.int x9), some (.int x10)]) rfl rfl dc320_10.2.2.2 ?_
          refine am_s_iload rfl dc320_11.1.1.1 ?_
          refine am_s_iconst am_cc2 dc320_11.1.1.2 ?_
          refine am_s_ic_ne dc320_11.1.2.1 rfl (fun c5 => ?_) (fun c5 => ?_)
          · refine am_s_iinc (ls' := [some (.ref 163), some (.int x1), some (.int x2), some (.int x3), some (.int x4), some (.int x5), some (.int x6), some (.int x7), some (.int x8), some (.int (x9 + 1)), some (.int x10)]) am_cc1 rfl rfl dc320_12.2.1.1 ?_
            refine am_s_goto rfl dc320_12.2.1.2 ?_
            exact (vi_f (vi_t (vi_t (vi_f (vi_t q c1) c2) c3) c4) c5)
          · refine am_s_iload rfl dc320_11.1.2.2 ?_
            refine am_s_aload_n rfl dc320_11.2.1.1 ?_
            exact am_s_virtual true dc320_11.2.1.2 rfl (by decide) rfl rfl rfl ((vi_t (vi_t (vi_t (vi_f (vi_t q c1) c2) c3) c4) (Decidable.not_not.mp c5)))
        · refine am_s_aload_n rfl dc320_10.1.1.2 ?_
          refine am_s_getR (r := 181) dc320_10.1.2.1 rfl rfl rfl (hp _ _ _ rfl) ?_
          refine am_s_iconst am_cc0 dc320_10.1.2.2 ?_
          refine am_x_iaload (x := I 181 0) dc320_10.2.1.1 rfl (by decide +kernel) am_cN0 rfl ?_
          refine am_s_goto rfl dc320_10.2.1.2 ?_
          refine am_s_istore (ls' := [some (.ref 163), some (.int x1), some (.int x2), some (.int x3), some (.int x4), some (.int x5), some (.int x6), some (.int (I 181 0)), some (.int x8), some (.int x9), some (.int x10)]) rfl rfl dc320_10.2.2.2 ?_
          refine am_s_iload rfl dc320_11.1.1.1 ?_
          refine am_s_iconst am_cc2 dc320_11.1.1.2 ?_
          refine am_s_ic_ne dc320_11.1.2.1 rfl (fun c5 => ?_) (fun c5 => ?_)
          · refine am_s_iinc (ls' := [some (.ref 163), some (.int x1), some (.int x2), some (.int x3), some (.int x4), some (.int x5), some (.int x6), some (.int (I 181 0)), some (.int x8), some (.int (x9 + 1)), some (.int x10)]) am_cc1 rfl rfl dc320_12.2.1.1 ?_
            refine am_s_goto rfl dc320_12.2.1.2 ?_
            exact (vi_f (vi_f (vi_t (vi_f (vi_t q c1) c2) c3) c4) c5)
          · refine am_s_iload rfl dc320_11.1.2.2 ?_
            refine am_s_aload_n rfl dc320_11.2.1.1 ?_
            exact am_s_virtual true dc320_11.2.1.2 rfl (by decide) rfl rfl rfl ((vi_t (vi_f (vi_t (vi_f (vi_t q c1) c2) c3) c4) (Decidable.not_not.mp c5)))
      · refine am_s_aload_n rfl dc320_8.2.1.1 ?_
        refine am_s_getR (r := 181) dc320_8.2.1.2 rfl rfl rfl (hp _ _ _ rfl) ?_
        refine am_s_iconst am_cc0 dc320_8.2.2.1 ?_
        refine am_x_iaload (x := I 181 0) dc320_8.2.2.2 rfl (by decide +kernel) am_cN0 rfl ?_
        refine am_s_goto rfl dc320_9.1.1.1 ?_
        refine am_s_istore (ls' := [some (.ref 163), some (.int x1), some (.int x2), some (.int x3), some (.int x4), some (.int x5), some (.int (I 181 0)), some (.int x7), some (.int x8), some (.int x9), some (.int x10)]) rfl rfl dc320_9.1.2.1 ?_
        refine am_s_aload_n rfl dc320_9.1.2.2 ?_
        refine am_s_getR (r := 181) dc320_9.2.1.1 rfl rfl rfl (hp _ _ _ rfl) ?_
        refine am_s_iconst am_cc0 dc320_9.2.1.2 ?_
        refine am_x_iaload (x := I 181 0) dc320_9.2.2.1 rfl (by decide +kernel) am_cN0 rfl ?_
        refine am_s_iload rfl dc320_9.2.2.2 ?_
        refine am_s_ic_le dc320_10.1.1.1 rfl (fun c4 => ?_) (fun c4 => ?_)
        · refine am_s_iload rfl dc320_10.2.2.1 ?_
          refine am_s_istore (ls' := [some (.ref 163), some (.int x1), some (.int x2), some (.int x3), some (.int x4), some (.int x5), some (.int (I 181 0)), some (.int x7), some (.int x8), some (.int x9), some (.int x10)]) rfl rfl dc320_10.2.2.2 ?_
          refine am_s_iload rfl dc320_11.1.1.1 ?_
          refine am_s_iconst am_cc2 dc320_11.1.1.2 ?_
          refine am_s_ic_ne dc320_11.1.2.1 rfl (fun c5 => ?_) (fun c5 => ?_)
          · refine am_s_iinc (ls' := [some (.ref 163), some (.int x1), some (.int x2), some (.int x3), some (.int x4), some (.int x5), some (.int (I 181 0)), some (.int x7), some (.int x8), some (.int (x9 + 1)), some (.int x10)]) am_cc1 rfl rfl dc320_12.2.1.1 ?_
            refine am_s_goto rfl dc320_12.2.1.2 ?_
            exact (vi_f (vi_t (vi_f (vi_f (vi_t q c1) c2) c3) c4) c5)
          · refine am_s_iload rfl dc320_11.1.2.2 ?_
            refine am_s_aload_n rfl dc320_11.2.1.1 ?_
            exact am_s_virtual true dc320_11.2.1.2 rfl (by decide) rfl rfl rfl ((vi_t (vi_t (vi_f (vi_f (vi_t q c1) c2) c3) c4) (Decidable.not_not.mp c5)))
        · refine am_s_aload_n rfl dc320_10.1.1.2 ?_
          refine am_s_getR (r := 181) dc320_10.1.2.1 rfl rfl rfl (hp _ _ _ rfl) ?_
          refine am_s_iconst am_cc0 dc320_10.1.2.2 ?_
          refine am_x_iaload (x := I 181 0) dc320_10.2.1.1 rfl (by decide +kernel) am_cN0 rfl ?_
          refine am_s_goto rfl dc320_10.2.1.2 ?_
          refine am_s_istore (ls' := [some (.ref 163), some (.int x1), some (.int x2), some (.int x3), some (.int x4), some (.int x5), some (.int (I 181 0)), some (.int (I 181 0)), some (.int x8), some (.int x9), some (.int x10)]) rfl rfl dc320_10.2.2.2 ?_
          refine am_s_iload rfl dc320_11.1.1.1 ?_
          refine am_s_iconst am_cc2 dc320_11.1.1.2 ?_
          refine am_s_ic_ne dc320_11.1.2.1 rfl (fun c5 => ?_) (fun c5 => ?_)
          · refine am_s_iinc (ls' := [some (.ref 163), some (.int x1), some (.int x2), some (.int x3), some (.int x4), some (.int x5), some (.int (I 181 0)), some (.int (I 181 0)), some (.int x8), some (.int (x9 + 1)), some (.int x10)]) am_cc1 rfl rfl dc320_12.2.1.1 ?_
            refine am_s_goto rfl dc320_12.2.1.2 ?_
            exact (vi_f (vi_f (vi_f (vi_f (vi_t q c1) c2) c3) c4) c5)
          · refine am_s_iload rfl dc320_11.1.2.2 ?_
            refine am_s_aload_n rfl dc320_11.2.1.1 ?_
            exact am_s_virtual true dc320_11.2.1.2 rfl (by decide) rfl rfl rfl ((vi_t (vi_f (vi_f (vi_f (vi_t q c1) c2) c3) c4) (Decidable.not_not.mp c5)))
  · refine am_s_aload_n rfl dc320_6.2.2.1 ?_
    exact am_s_virtual true dc320_6.2.2.2 rfl (by decide) rfl rfl rfl ((vi_f q c1))
theorem v320_80 {sc : Option (Nat × (Nat → Int32))} {d k n : Nat} {P : am_O → Prop} {I : am_I} {J : am_J} {Pf : am_R} (hp : am_PF Pf) {x1 : Int32} {x2 : Int32} {x3 : Int32} {x4 : Int32} {x5 : Int32} {x6 : Int32} {x7 : Int32} {x8 : Int32} {x9 : Int32} {l10 : Option Value} (q : (am_go sc d 320 (91, [some (.ref 163), some (.int x1), some (.int x2), some (.int x3), some (.int x4), some (.int x5), some (.int x6), some (.int x7), some (.int x8), some (.int x9), some (.int 0)], [], (am_SH, am_u I 163 62 (x1 + x9), J, Pf), k, n) P)) : am_go sc d 320 (80, [some (.ref 163), some (.int x1), some (.int x2), some (.int x3), some (.int x4), some (.int x5), some (.int x6), some (.int x7), some (.int x8), some (.int x9), l10], [], (am_SH, I, J, Pf), k, n) P := by
  refine am_s_aload_n rfl dc320_5.2.1.1 ?_
  refine am_s_iload_n rfl dc320_5.2.1.2 ?_
  refine am_s_iload rfl dc320_5.2.2.1 ?_
  refine am_s_iadd dc320_5.2.2.2 ?_
  refine am_s_putI dc320_6.1.1.1 rfl rfl rfl rfl ?_
  refine am_s_iconst am_cc0 dc320_6.1.1.2 ?_
  refine am_s_istore (ls' := [some (.ref 163), some (.int x1), some (.int x2), some (.int x3), some (.int x4), some (.int x5), some (.int x6), some (.int x7), some (.int x8), some (.int x9), some (.int 0)]) rfl rfl dc320_6.1.2.1 ?_
  exact q
theorem v320_101 {sc : Option (Nat × (Nat → Int32))} {d k n : Nat} {P : am_O → Prop} {I : am_I} {J : am_J} {Pf : am_R} (hp : am_PF Pf) {x1 : Int32} {x2 : Int32} {x3 : Int32} {x4 : Int32} {x5 : Int32} {x6 : Int32} {x7 : Int32} {x8 : Int32} {x9 : Int32} {x10 : Int32} {s0 : Int32} (q : (am_go sc d 320 (91, [some (.ref 163), some (.int x1), some (.int x2), some (.int x3), some (.int x4), some (.int x5), some (.int x6), some (.int x7), some (.int x8), some (.int x9), some (.int (x10 + 1))], [], (am_SH, I, J, Pf), k, n) P)) : am_go sc d 320 (101, [some (.ref 163), some (.int x1), some (.int x2), some (.int x3), some (.int x4), some (.int x5), some (.int x6), some (.int x7), some (.int x8), some (.int x9), some (.int x10)], [.int s0], (am_SH, I, J, Pf), k, n) P := by
  refine am_s_pop rfl dc320_7.1.1.1 ?_
  refine am_s_iinc (ls' := [some (.ref 163), some (.int x1), some (.int x2), some (.int x3), some (.int x4), some (.int x5), some (.int x6), some (.int x7), some (.int x8), some (.int x9), some (.int (x10 + 1))]) am_cc1 rfl rfl dc320_7.1.1.2 ?_
  refine am_s_goto rfl dc320_7.1.2.1 ?_
  exact q
theorem v320_174 {sc : Option (Nat × (Nat → Int32))} {d k n : Nat} {P : am_O → Prop} {I : am_I} {J : am_J} {Pf : am_R} (hp : am_PF Pf) {x1 : Int32} {x2 : Int32} {x3 : Int32} {x4 : Int32} {x5 : Int32} {x6 : Int32} {x7 : Int32} {l8 : Option Value} {x9 : Int32} {l10 : Option Value} {s0 : Int32} {s1 : Int32} (q : (am_go sc d 320 (70, [some (.ref 163), some (.int x1), some (.int x2), some (.int x3), some (.int x4), some (.int x5), some (.int x6), some (.int x7), some (.int (s0 + ((s1 >>> (x5 &&& 31)) &&& 1))), some (.int (x9 + 1)), l10], [], (am_SH, I, J, Pf), k, n) P)) : am_go sc d 320 (174, [some (.ref 163), some (.int x1), some (.int x2), some (.int x3), some (.int x4), some (.int x5), some (.int x6), some (.int x7), l8, some (.int x9), l10], [.int s1, .int s0], (am_SH, I, J, Pf), k, n) P := by
  refine am_s_iload rfl dc320_11.2.2.1 ?_
  refine am_s_ishr dc320_11.2.2.2 ?_
  refine am_s_iconst am_cc1 dc320_12.1.1.1 ?_
  refine am_s_iand dc320_12.1.1.2 ?_
  refine am_s_iadd dc320_12.1.2.1 ?_
  refine am_s_istore (ls' := [some (.ref 163), some (.int x1), some (.int x2), some (.int x3), some (.int x4), some (.int x5), some (.int x6), some (.int x7), some (.int (s0 + ((s1 >>> (x5 &&& 31)) &&& 1))), some (.int x9), l10]) rfl rfl dc320_12.1.2.2 ?_
  refine am_s_iinc (ls' := [some (.ref 163), some (.int x1), some (.int x2), some (.int x3), some (.int x4), some (.int x5), some (.int x6), some (.int x7), some (.int (s0 + ((s1 >>> (x5 &&& 31)) &&& 1))), some (.int (x9 + 1)), l10]) am_cc1 rfl rfl dc320_12.2.1.1 ?_
  refine am_s_goto rfl dc320_12.2.1.2 ?_
  exact q
-- keepsRow (I[IIZ)I
theorem v321_0 {sc : Option (Nat × (Nat → Int32))} {d k n : Nat} {P : am_O → Prop} {I : am_I} {J : am_J} {Pf : am_R} (hp : am_PF Pf) {x1 : Int32} {x2 : Nat} {Lx2 : Nat} (hx2 : am_SH[x2]? = some (.inr (0, Lx2))) {x3 : Int32} {x4 : Int32} {l5 : Option Value} (q : (am_go sc d 321 (3, [some (.ref 163), some (.int x1), some (.ref x2), some (.int x3), some (.int x4), some (.int 0)], [], (am_SH, I, J, Pf), k, n) P)) : am_go sc d 321 (0, [some (.ref 163), some (.int x1), some (.ref x2), some (.int x3), some (.int x4), l5], [], (am_SH, I, J, Pf), k, n) P := by
  refine am_s_iconst am_cc0 dc321_0.1.1.1 ?_
  refine am_s_istore (ls' := [some (.ref 163), some (.int x1), some (.ref x2), some (.int x3), some (.int x4), some (.int 0)]) rfl rfl dc321_0.1.1.2 ?_
  exact q
theorem v321_3 {sc : Option (Nat × (Nat → Int32))} {d k n : Nat} {P : am_O → Prop} {I : am_I} {J : am_J} {Pf : am_R} (hp : am_PF Pf) {x1 : Int32} {x2 : Nat} {Lx2 : Nat} (hx2 : am_SH[x2]? = some (.inr (0, Lx2))) {x3 : Int32} {x4 : Int32} {x5 : Int32} (q : (if x3 ≤ x5 then (P (.inl (some (.int (x1 + x3))), (am_SH, I, J, Pf), k, n)) else (if x4 = 0 then (am_in (x1 + x5) 1278 = true) ∧ (am_in x5 Lx2 = true) ∧ (am_go sc d 321 (3, [some (.ref 163), some (.int x1), some (.ref x2), some (.int x3), some (.int x4), some (.int (x5 + 1))], [], (am_SH, am_u I x2 (Int32.toNatClampNeg x5) (I 201 (Int32.toNatClampNeg (x1 + x5))), J, Pf), k, n) P) else (am_in x5 Lx2 = true) ∧ (am_in (x1 + x5) 1278 = true) ∧ (am_go sc d 321 (3, [some (.ref 163), some (.int x1), some (.ref x2), some (.int x3), some (.int x4), some (.int (x5 + 1))], [], (am_SH, am_u I 201 (Int32.toNatClampNeg (x1 + x5)) (I x2 (Int32.toNatClampNeg x5)), J, Pf), k, n) P)))) : am_go sc d 321 (3, [some (.ref 163), some (.int x1), some (.ref x2), some (.int x3), some (.int x4), some (.int x5)], [], (am_SH, I, J, Pf), k, n) P := by
  refine am_s_iload rfl dc321_0.1.2.1 ?_
  refine am_s_iload_n rfl dc321_0.1.2.2 ?_
  refine am_s_ic_ge dc321_0.2.1.1 rfl (fun c1 => ?_) (fun c1 => ?_)
  · refine am_s_iload_n rfl dc321_3.2.1.1 ?_
    refine am_s_iload_n rfl dc321_3.2.1.2 ?_
    refine am_s_iadd dc321_3.2.2.1 ?_
    exact am_s_ireturn dc321_3.2.2.2 rfl ((vi_t q c1))
  · refine am_s_iload rfl dc321_0.2.1.2 ?_
    refine am_s_if_eq dc321_0.2.2.1 rfl (fun c2 => ?_) (fun c2 => ?_)
    · refine am_s_aload_n rfl dc321_2.1.1.2 ?_
      refine am_s_iload rfl dc321_2.1.2.1 ?_
      refine am_s_aload_n rfl dc321_2.1.2.2 ?_
      refine am_s_getR (r := 201) dc321_2.2.1.1 rfl rfl rfl (hp _ _ _ rfl) ?_
      refine am_s_iload_n rfl dc321_2.2.1.2 ?_
      refine am_s_iload rfl dc321_2.2.2.1 ?_
      refine am_s_iadd dc321_2.2.2.2 ?_
      refine am_x_iaload (x := I 201 (Int32.toNatClampNeg (x1 + x5))) dc321_3.1.1.1 rfl ((vi_t (vi_f q c1) c2).1) rfl rfl ?_
      refine am_s_iastore dc321_3.1.1.2 hx2 ((vi_t (vi_f q c1) c2).2.1) rfl ?_
      refine am_s_iinc (ls' := [some (.ref 163), some (.int x1), some (.ref x2), some (.int x3), some (.int x4), some (.int (x5 + 1))]) am_cc1 rfl rfl dc321_3.1.2.1 ?_
      refine am_s_goto rfl dc321_3.1.2.2 ?_
      exact (vi_t (vi_f q c1) c2).2.2
    · refine am_s_aload_n rfl dc321_0.2.2.2 ?_
      refine am_s_getR (r := 201) dc321_1.1.1.1 rfl rfl rfl (hp _ _ _ rfl) ?_
      refine am_s_iload_n rfl dc321_1.1.1.2 ?_
      refine am_s_iload rfl dc321_1.1.2.1 ?_
      refine am_s_iadd dc321_1.1.2.2 ?_
      refine am_s_aload_n rfl dc321_1.2.1.1 ?_
      refine am_s_iload rfl dc321_1.2.1.2 ?_
      refine am_x_iaload (x := I x2 (Int32.toNatClampNeg x5)) dc321_1.2.2.1 hx2 ((vi_f (vi_f q c1) c2).1) rfl rfl ?_
      refine am_s_iastore dc321_1.2.2.2 rfl ((vi_f (vi_f q c1) c2).2.1) rfl ?_
      refine am_s_goto rfl dc321_2.1.1.1 ?_
      refine am_s_iinc (ls' := [some (.ref 163), some (.int x1), some (.ref x2), some (.int x3), some (.int x4), some (.int (x5 + 1))]) am_cc1 rfl rfl dc321_3.1.2.1 ?_
      refine am_s_goto rfl dc321_3.1.2.2 ?_
      exact (vi_f (vi_f q c1) c2).2.2
-- keepsAll (IZ)V
theorem v322_0 {sc : Option (Nat × (Nat → Int32))} {d k n : Nat} {P : am_O → Prop} {I : am_I} {J : am_J} {Pf : am_R} (hp : am_PF Pf) {x1 : Int32} {x2 : Int32} {l3 : Option Value} (q : (am_mth d 321 [.ref 163, .int (426 * x1), .ref 180, .int 25, .int x2] (am_SH, I, J, Pf) (am_af sc d 322 13 [some (.ref 163), some (.int x1), some (.int x2), l3] [.int x2, .int 25, .ref 180, .int (426 * x1), .ref 163] [] (am_SH, I, J, Pf) k n true P))) : am_go sc d 322 (0, [some (.ref 163), some (.int x1), some (.int x2), l3], [], (am_SH, I, J, Pf), k, n) P := by
  refine am_s_aload_n rfl dc322_0.1.1.1 ?_
  refine am_s_sipush am_cs426 dc322_0.1.1.2 ?_
  refine am_s_iload_n rfl dc322_0.1.2.1 ?_
  refine am_s_imul dc322_0.1.2.2 ?_
  refine am_s_aload_n rfl dc322_0.2.1.1 ?_
  refine am_s_getR (r := 180) dc322_0.2.1.2 rfl rfl rfl (hp _ _ _ rfl) ?_
  refine am_s_bipush am_cb25 dc322_0.2.2.1 ?_
  refine am_s_iload_n rfl dc322_0.2.2.2 ?_
  exact am_s_virtual true dc322_1.1.1.1 rfl (by decide) rfl rfl rfl (q)
theorem v322_16 {sc : Option (Nat × (Nat → Int32))} {d k n : Nat} {P : am_O → Prop} {I : am_I} {J : am_J} {Pf : am_R} (hp : am_PF Pf) {l1 : Option Value} {x2 : Int32} {l3 : Option Value} {s0 : Int32} (q : (am_mth d 321 [.ref 163, .int s0, .ref 182, .int 400, .int x2] (am_SH, I, J, Pf) (am_af sc d 322 27 [some (.ref 163), l1, some (.int x2), some (.int s0)] [.int x2, .int 400, .ref 182, .int s0, .ref 163] [] (am_SH, I, J, Pf) k n true P))) : am_go sc d 322 (16, [some (.ref 163), l1, some (.int x2), l3], [.int s0], (am_SH, I, J, Pf), k, n) P := by
  refine am_s_istore_n (ls' := [some (.ref 163), l1, some (.int x2), some (.int s0)]) rfl rfl dc322_1.1.1.2 ?_
  refine am_s_aload_n rfl dc322_1.1.2.1 ?_
  refine am_s_iload_n rfl dc322_1.1.2.2 ?_
  refine am_s_aload_n rfl dc322_1.2.1.1 ?_
  refine am_s_getR (r := 182) dc322_1.2.1.2 rfl rfl rfl (hp _ _ _ rfl) ?_
  refine am_s_sipush am_cs400 dc322_1.2.2.1 ?_
  refine am_s_iload_n rfl dc322_1.2.2.2 ?_
  exact am_s_virtual true dc322_2.1.1.1 rfl (by decide) rfl rfl rfl (q)
theorem v322_30 {sc : Option (Nat × (Nat → Int32))} {d k n : Nat} {P : am_O → Prop} {I : am_I} {J : am_J} {Pf : am_R} (hp : am_PF Pf) {l1 : Option Value} {x2 : Int32} {l3 : Option Value} {s0 : Int32} (q : (if x2 = 0 then (am_in s0 1278 = true) ∧ (P (.inl none, (am_SH, am_u I 163 34 (I 201 (Int32.toNatClampNeg s0)), J, Pf), k, n)) else (am_in s0 1278 = true) ∧ (P (.inl none, (am_SH, am_u I 201 (Int32.toNatClampNeg s0) (I 163 34), J, Pf), k, n)))) : am_go sc d 322 (30, [some (.ref 163), l1, some (.int x2), l3], [.int s0], (am_SH, I, J, Pf), k, n) P := by
  refine am_s_istore_n (ls' := [some (.ref 163), l1, some (.int x2), some (.int s0)]) rfl rfl dc322_2.1.1.2 ?_
  refine am_s_iload_n rfl dc322_2.1.2.1 ?_
  refine am_s_if_eq dc322_2.1.2.2 rfl (fun c1 => ?_) (fun c1 => ?_)
  · refine am_s_aload_n rfl dc322_3.1.2.2 ?_
    refine am_s_aload_n rfl dc322_3.2.1.1 ?_
    refine am_s_getR (r := 201) dc322_3.2.1.2 rfl rfl rfl (hp _ _ _ rfl) ?_
    refine am_s_iload_n rfl dc322_3.2.2.1 ?_
    refine am_x_iaload (x := I 201 (Int32.toNatClampNeg s0)) dc322_3.2.2.2 rfl ((vi_t q c1).1) rfl rfl ?_
    refine am_s_putI dc322_4.1 rfl rfl rfl rfl ?_
    exact am_s_return dc322_4.2 rfl ((vi_t q c1).2)
  · refine am_s_aload_n rfl dc322_2.2.1.1 ?_
    refine am_s_getR (r := 201) dc322_2.2.1.2 rfl rfl rfl (hp _ _ _ rfl) ?_
    refine am_s_iload_n rfl dc322_2.2.2.1 ?_
    refine am_s_aload_n rfl dc322_2.2.2.2 ?_
    refine am_x_getI (x := I 163 34) dc322_3.1.1.1 rfl rfl (Or.inl rfl) rfl ?_
    refine am_s_iastore dc322_3.1.1.2 rfl ((vi_f q c1).1) rfl ?_
    refine am_s_goto rfl dc322_3.1.2.1 ?_
    exact am_s_return dc322_4.2 rfl ((vi_f q c1).2)
-- image ()I
theorem v323_0 {sc : Option (Nat × (Nat → Int32))} {d k n : Nat} {P : am_O → Prop} {I : am_I} {J : am_J} {Pf : am_R} (hp : am_PF Pf)  (q : (if (I 163 65) = 3 then (P (.inl (some (.int (-1))), (am_SH, am_u I 163 0 0, J, Pf), k, n)) else (am_mth d 322 [.ref 163, .int (I 163 65), .int 1] (am_SH, am_u I 163 0 0, J, Pf) (am_af sc d 323 21 [some (.ref 163)] [.int 1, .int (I 163 65), .ref 163] [] (am_SH, am_u I 163 0 0, J, Pf) k n true P)))) : am_go sc d 323 (0, [some (.ref 163)], [], (am_SH, I, J, Pf), k, n) P := by
  refine am_s_aload_n rfl dc323_0.1.1.1 ?_
  refine am_s_iconst am_cc0 dc323_0.1.1.2 ?_
  refine am_s_putI dc323_0.1.2.1 rfl rfl rfl rfl ?_
  refine am_s_aload_n rfl dc323_0.1.2.2 ?_
  refine am_x_getI (x := I 163 65) dc323_0.2.1.1 rfl rfl (Or.inl rfl) rfl ?_
  refine am_s_iconst am_cc3 dc323_0.2.1.2 ?_
  refine am_s_ic_ne dc323_0.2.2.1 rfl (fun c1 => ?_) (fun c1 => ?_)
  · refine am_s_aload_n rfl dc323_1.1.1.2 ?_
    refine am_s_aload_n rfl dc323_1.1.2.1 ?_
    refine am_x_getI (x := I 163 65) dc323_1.1.2.2 rfl rfl (Or.inl rfl) rfl ?_
    refine am_s_iconst am_cc1 dc323_1.2.1.1 ?_
    exact am_s_virtual true dc323_1.2.1.2 rfl (by decide) rfl rfl rfl ((vi_f q c1))
  · refine am_s_iconst am_ccm1 dc323_0.2.2.2 ?_
    exact am_s_ireturn dc323_1.1.1.1 rfl ((vi_t q (Decidable.not_not.mp c1)))
theorem v323_24 {sc : Option (Nat × (Nat → Int32))} {d k n : Nat} {P : am_O → Prop} {I : am_I} {J : am_J} {Pf : am_R} (hp : am_PF Pf)  (q : (P (.inl (some (.int ((I 163 65) + 1))), (am_SH, am_u I 163 65 ((I 163 65) + 1), J, Pf), k, n))) : am_go sc d 323 (24, [some (.ref 163)], [], (am_SH, I, J, Pf), k, n) P := by
  refine am_s_aload_n rfl dc323_1.2.2.1 ?_
  refine am_s_dup rfl dc323_1.2.2.2 ?_
  refine am_x_getI (x := I 163 65) dc323_2.1.1 rfl rfl (Or.inl rfl) rfl ?_
  refine am_s_iconst am_cc1 dc323_2.1.2.1 ?_
  refine am_s_iadd dc323_2.1.2.2 ?_
  refine am_s_putI dc323_2.2.1.1 rfl rfl rfl rfl ?_
  refine am_s_aload_n rfl dc323_2.2.1.2 ?_
  refine am_x_getI (x := (I 163 65) + 1) dc323_2.2.2.1 rfl rfl (Or.inl rfl) rfl ?_
  exact am_s_ireturn dc323_2.2.2.2 rfl (q)
-- restore ()I
theorem v324_0 {sc : Option (Nat × (Nat → Int32))} {d k n : Nat} {P : am_O → Prop} {I : am_I} {J : am_J} {Pf : am_R} (hp : am_PF Pf)  (q : (if (I 163 65) = 0 then (P (.inl (some (.int (-1))), (am_SH, am_u I 163 0 0, J, Pf), k, n)) else (am_mth d 322 [.ref 163, .int ((I 163 65) - 1), .int 0] (am_SH, am_u (am_u I 163 0 0) 163 65 ((I 163 65) - 1), J, Pf) (am_af sc d 324 30 [some (.ref 163)] [.int 0, .int ((I 163 65) - 1), .ref 163] [] (am_SH, am_u (am_u I 163 0 0) 163 65 ((I 163 65) - 1), J, Pf) k n true P)))) : am_go sc d 324 (0, [some (.ref 163)], [], (am_SH, I, J, Pf), k, n) P := by
  refine am_s_aload_n rfl dc324_0.1.1.1 ?_
  refine am_s_iconst am_cc0 dc324_0.1.1.2 ?_
  refine am_s_putI dc324_0.1.2.1 rfl rfl rfl rfl ?_
  refine am_s_aload_n rfl dc324_0.1.2.2 ?_
  refine am_x_getI (x := I 163 65) dc324_0.2.1.1 rfl rfl (Or.inl rfl) rfl ?_
  refine am_s_if_ne dc324_0.2.1.2 rfl (fun c1 => ?_) (fun c1 => ?_)
  · refine am_s_aload_n rfl dc324_1.1.1.1 ?_
    refine am_s_dup rfl dc324_1.1.1.2 ?_
    refine am_x_getI (x := I 163 65) dc324_1.1.2.1 rfl rfl (Or.inl rfl) rfl ?_
    refine am_s_iconst am_cc1 dc324_1.1.2.2 ?_
    refine am_s_isub dc324_1.2.1.1 ?_
    refine am_s_putI dc324_1.2.1.2 rfl rfl rfl rfl ?_
    refine am_s_aload_n rfl dc324_1.2.2.1 ?_
    refine am_s_aload_n rfl dc324_1.2.2.2 ?_
    refine am_x_getI (x := (I 163 65) - 1) dc324_2.1.1.1 rfl rfl (Or.inl rfl) rfl ?_
    refine am_s_iconst am_cc0 dc324_2.1.1.2 ?_
    exact am_s_virtual true dc324_2.1.2.1 rfl (by decide) rfl rfl rfl ((vi_f q c1))
  · refine am_s_iconst am_ccm1 dc324_0.2.2.1 ?_
    exact am_s_ireturn dc324_0.2.2.2 rfl ((vi_t q (Decidable.not_not.mp c1)))
theorem v324_33 {sc : Option (Nat × (Nat → Int32))} {d k n : Nat} {P : am_O → Prop} {I : am_I} {J : am_J} {Pf : am_R} (hp : am_PF Pf)  (q : (P (.inl (some (.int (I 163 65))), (am_SH, am_u (am_u I 163 46 0) 163 35 0, J, Pf), k, n))) : am_go sc d 324 (33, [some (.ref 163)], [], (am_SH, I, J, Pf), k, n) P := by
  refine am_s_aload_n rfl dc324_2.1.2.2 ?_
  refine am_s_iconst am_cc0 dc324_2.2.1.1 ?_
  refine am_s_putZ dc324_2.2.1.2 rfl rfl rfl rfl (by decide) ?_
  refine am_s_aload_n rfl dc324_2.2.2.1 ?_
  refine am_s_iconst am_cc0 dc324_2.2.2.2 ?_
  refine am_s_putI dc324_3.1.1 rfl rfl rfl rfl ?_
  refine am_s_aload_n rfl dc324_3.1.2 ?_
  refine am_x_getI (x := I 163 65) dc324_3.2.1 rfl rfl (Or.inl rfl) rfl ?_
  exact am_s_ireturn dc324_3.2.2 rfl (q)
-- status (I)I
theorem v325_0 {sc : Option (Nat × (Nat → Int32))} {d k n : Nat} {P : am_O → Prop} {I : am_I} {J : am_J} {Pf : am_R} (hp : am_PF Pf) {x1 : Int32} (q : (if x1 < 0 then (P (.inl (some (.int (-1))), (am_SH, am_u I 163 0 0, J, Pf), k, n)) else (if 1 < x1 then (P (.inl (some (.int (-1))), (am_SH, am_u I 163 0 0, J, Pf), k, n)) else (am_in x1 2 = true) ∧ (P (.inl (some (.int (I 164 (Int32.toNatClampNeg x1)))), (am_SH, am_u I 163 0 0, J, Pf), k, n))))) : am_go sc (d + 1) 325 (0, [some (.ref 163), some (.int x1)], [], (am_SH, I, J, Pf), k, n) P := by
  refine am_s_aload_n rfl dc325_0.1.1.1 ?_
  refine am_s_iconst am_cc0 dc325_0.1.1.2 ?_
  refine am_s_putI dc325_0.1.2.1 rfl rfl rfl rfl ?_
  refine am_s_iload_n rfl dc325_0.1.2.2 ?_
  refine am_s_iconst am_cc0 dc325_0.2.1.1 ?_
  refine am_s_iconst am_cc1 dc325_0.2.1.2 ?_
  refine am_s_static dc325_0.2.2.1 rfl rfl rfl (am_mth_of rfl rfl ?_)
  refine am_s_iload_n rfl dc190_0.1.1.1 ?_
  refine am_s_iload_n rfl dc190_0.1.1.2 ?_
  refine am_s_ic_lt dc190_0.1.2.1 rfl (fun c1 => ?_) (fun c1 => ?_)
  · refine am_s_iconst am_cc0 dc190_1.1 ?_
    refine am_s_zreturn dc190_1.2 rfl (by decide) (am_bkI ?_)
    refine am_s_if_eq dc325_0.2.2.2 rfl (fun _ => ?_) (fun z => absurd z (by decide))
    refine am_s_iconst am_ccm1 dc325_1.2.2.1 ?_
    exact am_s_ireturn dc325_1.2.2.2 rfl ((vi_t q c1))
  · refine am_s_iload_n rfl dc190_0.1.2.2 ?_
    refine am_s_iload_n rfl dc190_0.2.1.1 ?_
    refine am_s_ic_gt dc190_0.2.1.2 rfl (fun c2 => ?_) (fun c2 => ?_)
    · refine am_s_iconst am_cc0 dc190_1.1 ?_
      refine am_s_zreturn dc190_1.2 rfl (by decide) (am_bkI ?_)
      refine am_s_if_eq dc325_0.2.2.2 rfl (fun _ => ?_) (fun z => absurd z (by decide))
      refine am_s_iconst am_ccm1 dc325_1.2.2.1 ?_
      exact am_s_ireturn dc325_1.2.2.2 rfl ((vi_t (vi_f q c1) c2))
    · refine am_s_iconst am_cc1 dc190_0.2.2.1 ?_
      refine am_s_goto rfl dc190_0.2.2.2 ?_
      refine am_s_zreturn dc190_1.2 rfl (by decide) (am_bkI ?_)
      refine am_s_if_eq dc325_0.2.2.2 rfl (fun z => absurd z (by decide)) (fun _ => ?_)
      refine am_s_aload_n rfl dc325_1.1.1 ?_
      refine am_s_getR (r := 164) dc325_1.1.2.1 rfl rfl rfl (hp _ _ _ rfl) ?_
      refine am_s_iload_n rfl dc325_1.1.2.2 ?_
      refine am_x_iaload (x := I 164 (Int32.toNatClampNeg x1)) dc325_1.2.1.1 rfl ((vi_f (vi_f q c1) c2).1) rfl rfl ?_
      refine am_s_goto rfl dc325_1.2.1.2 ?_
      exact am_s_ireturn dc325_1.2.2.2 rfl ((vi_f (vi_f q c1) c2).2)
-- count (I)I
theorem v326_0 {sc : Option (Nat × (Nat → Int32))} {d k n : Nat} {P : am_O → Prop} {I : am_I} {J : am_J} {Pf : am_R} (hp : am_PF Pf) {x1 : Int32} (q : (if x1 = 0 then (P (.inl (some (.int (I 163 65))), (am_SH, am_u I 163 0 0, J, Pf), k, n)) else (if x1 = 1 then (P (.inl (some (.int (I 163 2))), (am_SH, am_u I 163 0 0, J, Pf), k, n)) else (if x1 = 2 then (P (.inl (some (.int (I 163 34))), (am_SH, am_u I 163 0 0, J, Pf), k, n)) else (P (.inl (some (.int (-1))), (am_SH, am_u I 163 0 0, J, Pf), k, n)))))) : am_go sc d 326 (0, [some (.ref 163), some (.int x1)], [], (am_SH, I, J, Pf), k, n) P := by
  refine am_s_aload_n rfl dc326_0.1.1.1 ?_
  refine am_s_iconst am_cc0 dc326_0.1.1.2 ?_
  refine am_s_putI dc326_0.1.2.1 rfl rfl rfl rfl ?_
  refine am_s_iload_n rfl dc326_0.1.2.2 ?_
  refine am_s_if_ne dc326_0.2.1.1 rfl (fun c1 => ?_) (fun c1 => ?_)
  · refine am_s_iload_n rfl dc326_1.1.1.1 ?_
    refine am_s_iconst am_cc1 dc326_1.1.1.2 ?_
    refine am_s_ic_ne dc326_1.1.2.1 rfl (fun c2 => ?_) (fun c2 => ?_)
    · refine am_s_iload_n rfl dc326_1.2.2.1 ?_
      refine am_s_iconst am_cc2 dc326_1.2.2.2 ?_
      refine am_s_ic_ne dc326_2.1.1 rfl (fun c3 => ?_) (fun c3 => ?_)
      · refine am_s_iconst am_ccm1 dc326_2.2.2.1 ?_
        exact am_s_ireturn dc326_2.2.2.2 rfl ((vi_f (vi_f (vi_f q c1) c2) c3))
      · refine am_s_aload_n rfl dc326_2.1.2.1 ?_
        refine am_x_getI (x := I 163 34) dc326_2.1.2.2 rfl rfl (Or.inl rfl) rfl ?_
        refine am_s_goto rfl dc326_2.2.1 ?_
        exact am_s_ireturn dc326_2.2.2.2 rfl ((vi_t (vi_f (vi_f q c1) c2) (Decidable.not_not.mp c3)))
    · refine am_s_aload_n rfl dc326_1.1.2.2 ?_
      refine am_x_getI (x := I 163 2) dc326_1.2.1.1 rfl rfl (Or.inl rfl) rfl ?_
      refine am_s_goto rfl dc326_1.2.1.2 ?_
      exact am_s_ireturn dc326_2.2.2.2 rfl ((vi_t (vi_f q c1) (Decidable.not_not.mp c2)))
  · refine am_s_aload_n rfl dc326_0.2.1.2 ?_
    refine am_x_getI (x := I 163 65) dc326_0.2.2.1 rfl rfl (Or.inl rfl) rfl ?_
    refine am_s_goto rfl dc326_0.2.2.2 ?_
    exact am_s_ireturn dc326_2.2.2.2 rfl ((vi_t q (Decidable.not_not.mp c1)))
