/-! Walks, leaves inlined: the class: table, finder, shelf, tree, the rest -/
-- take (LPrunedParses$Rules;)V
theorem v1_0 {sc : Option (Nat × (Nat → Int32))} {d k n : Nat} {P : am_O → Prop} {I : am_I} {J : am_J} {Pf : am_R} (hp : am_PF Pf) {x1 : Nat} (hx1 : am_SH[x1]? = some (.inl 4)) (q : ∃ rx1_20x1 : Nat, ((am_u Pf 112 0 (some x1)) x1 20 = some rx1_20x1) ∧ (am_SH[rx1_20x1]? = some (.inl 7)) ∧ ((am_u (am_u Pf 112 0 (some x1)) 112 1 (some rx1_20x1)) 112 8 = some 119) ∧ (am_mth d 341 [.ref 119, .int (-1)] (am_SH, I, J, am_u (am_u Pf 112 0 (some x1)) 112 1 (some rx1_20x1)) (am_af sc d 1 18 [some (.ref 112), some (.ref x1)] [.int (-1), .ref 119] [] (am_SH, I, J, am_u (am_u Pf 112 0 (some x1)) 112 1 (some rx1_20x1)) k n false P))) : am_go sc d 1 (0, [some (.ref 112), some (.ref x1)], [], (am_SH, I, J, Pf), k, n) P := by
  refine am_s_aload_n rfl dc1_0.1.1.1 ?_
  refine am_s_aload_n rfl dc1_0.1.1.2 ?_
  refine am_s_putR dc1_0.1.2.1 rfl rfl rfl rfl (am_blt hx1) ?_
  refine am_s_aload_n rfl dc1_0.1.2.2 ?_
  refine am_s_aload_n rfl dc1_0.2.1.1 ?_
  obtain ⟨rx1_20x1, qx1⟩ := q
  refine am_s_getR (r := rx1_20x1) dc1_0.2.1.2 rfl hx1 rfl (qx1.1) ?_
  refine am_s_putR dc1_0.2.2.1 rfl rfl rfl rfl (am_blt (qx1.2.1)) ?_
  refine am_s_aload_n rfl dc1_0.2.2.2 ?_
  refine am_s_getR (r := 119) dc1_1.1.1 rfl rfl rfl (qx1.2.2.1) ?_
  refine am_s_iconst am_ccm1 dc1_1.1.2.1 ?_
  exact am_s_static dc1_1.1.2.2 rfl rfl rfl (qx1.2.2.2)
theorem v1_21 {sc : Option (Nat × (Nat → Int32))} {d k n : Nat} {P : am_O → Prop} {I : am_I} {J : am_J} {Pf : am_R} (hp : am_PF Pf) {l1 : Option Value} (q : (P (.inl none, (am_SH, am_u I 112 9 0, J, Pf), k, n))) : am_go sc d 1 (21, [some (.ref 112), l1], [], (am_SH, I, J, Pf), k, n) P := by
  refine am_s_aload_n rfl dc1_1.2.1.1 ?_
  refine am_s_iconst am_cc0 dc1_1.2.1.2 ?_
  refine am_s_putI dc1_1.2.2.1 rfl rfl rfl rfl ?_
  exact am_s_return dc1_1.2.2.2 rfl (q)
-- fill (LPrunedParses$Table;II)V
theorem v2_0 {sc : Option (Nat × (Nat → Int32))} {d k n : Nat} {P : am_O → Prop} {I : am_I} {J : am_J} {Pf : am_R} (hp : am_PF Pf) {x1 : Nat} (hx1 : am_SH[x1]? = some (.inl 9)) {x2 : Int32} {x3 : Int32} {l4 : Option Value} (q : ∃ r112_0x1 : Nat, (Pf 112 0 = some r112_0x1) ∧ (am_SH[r112_0x1]? = some (.inl 4)) ∧ (am_mth d 116 [.ref x1, .ref r112_0x1] (am_SH, I, J, Pf) (am_af sc d 2 5 [some (.ref 112), some (.ref x1), some (.int x2), some (.int x3), l4] [.ref r112_0x1, .ref x1] [] (am_SH, I, J, Pf) k n false P))) : am_go sc d 2 (0, [some (.ref 112), some (.ref x1), some (.int x2), some (.int x3), l4], [], (am_SH, I, J, Pf), k, n) P := by
  refine am_s_aload_n rfl dc2_0.1.1.1 ?_
  refine am_s_aload_n rfl dc2_0.1.1.2 ?_
  obtain ⟨r112_0x1, qx1⟩ := q
  refine am_s_getR (r := r112_0x1) dc2_0.1.2.1 rfl rfl rfl (qx1.1) ?_
  exact am_s_virtual false dc2_0.1.2.2 rfl (by decide) rfl hx1 rfl (qx1.2.2)
theorem v2_23 {sc : Option (Nat × (Nat → Int32))} {d k n : Nat} {P : am_O → Prop} {I : am_I} {J : am_J} {Pf : am_R} (hp : am_PF Pf) {x1 : Nat} (hx1 : am_SH[x1]? = some (.inl 9)) {l2 : Option Value} {l3 : Option Value} {x4 : Int32} (q : (if x4 < 0 then (P (.inl none, (am_SH, I, J, Pf), k, n)) else (am_mth d 10 [.ref 112, .ref x1, .int x4] (am_SH, I, J, Pf) (am_af sc d 2 32 [some (.ref 112), some (.ref x1), l2, l3, some (.int x4)] [.int x4, .ref x1, .ref 112] [] (am_SH, I, J, Pf) k n true P)))) : am_go sc d 2 (23, [some (.ref 112), some (.ref x1), l2, l3, some (.int x4)], [], (am_SH, I, J, Pf), k, n) P := by
  refine am_s_iload rfl dc2_1.2.2.1 ?_
  refine am_s_if_lt dc2_1.2.2.2 rfl (fun c1 => ?_) (fun c1 => ?_)
  · exact am_s_return dc2_2.2.2.2 rfl ((vi_t q c1))
  · refine am_s_aload_n rfl dc2_2.1.1 ?_
    refine am_s_aload_n rfl dc2_2.1.2.1 ?_
    refine am_s_iload rfl dc2_2.1.2.2 ?_
    exact am_s_virtual true dc2_2.2.1.1 rfl (by decide) rfl rfl rfl ((vi_f q c1))
theorem v2_8 {sc : Option (Nat × (Nat → Int32))} {d k n : Nat} {P : am_O → Prop} {I : am_I} {J : am_J} {Pf : am_R} (hp : am_PF Pf) {x1 : Nat} (hx1 : am_SH[x1]? = some (.inl 9)) {x2 : Int32} {x3 : Int32} {l4 : Option Value} (q : (am_mth d 3 [.ref 112, .ref x1, .int x2, .int x3] (am_SH, I, J, Pf) (am_af sc d 2 12 [some (.ref 112), some (.ref x1), some (.int x2), some (.int x3), l4] [.int x3, .int x2, .ref x1, .ref 112] [] (am_SH, I, J, Pf) k n true P))) : am_go sc d 2 (8, [some (.ref 112), some (.ref x1), some (.int x2), some (.int x3), l4], [], (am_SH, I, J, Pf), k, n) P := by
  refine am_s_aload_n rfl dc2_0.2.1.1 ?_
  refine am_s_aload_n rfl dc2_0.2.1.2 ?_
  refine am_s_iload_n rfl dc2_0.2.2.1 ?_
  refine am_s_iload_n rfl dc2_0.2.2.2 ?_
  exact am_s_virtual true dc2_1.1.1.1 rfl (by decide) rfl rfl rfl (q)
theorem v2_35 {sc : Option (Nat × (Nat → Int32))} {d k n : Nat} {P : am_O → Prop} {I : am_I} {J : am_J} {Pf : am_R} (hp : am_PF Pf) {x1 : Nat} (hx1 : am_SH[x1]? = some (.inl 9)) {l2 : Option Value} {l3 : Option Value} {x4 : Int32} (hl3 : am_k1 l3 = true) (q : (am_go sc d 2 (23, [some (.ref 112), some (.ref x1), l2, l3, some (.int (x4 + (-1)))], [], (am_SH, I, J, Pf), k, n) P)) : am_go sc d 2 (35, [some (.ref 112), some (.ref x1), l2, l3, some (.int x4)], [], (am_SH, I, J, Pf), k, n) P := by
  refine am_s_iinc (ls' := [some (.ref 112), some (.ref x1), l2, l3, some (.int (x4 + (-1)))]) am_ccm1 rfl (am_set1_k (am_kill_x (j := 3) rfl hl3) rfl) dc2_2.2.1.2 ?_
  refine am_s_goto rfl dc2_2.2.2.1 ?_
  exact q
theorem v2_15 {sc : Option (Nat × (Nat → Int32))} {d k n : Nat} {P : am_O → Prop} {I : am_I} {J : am_J} {Pf : am_R} (hp : am_PF Pf) {x1 : Nat} (hx1 : am_SH[x1]? = some (.inl 9)) {l2 : Option Value} {x3 : Int32} {l4 : Option Value} (q : (am_mth d 9 [.ref 112, .ref x1] (am_SH, I, J, Pf) (am_af sc d 2 17 [some (.ref 112), some (.ref x1), l2, some (.int x3), l4] [.ref x1, .ref 112] [] (am_SH, I, J, Pf) k n true P))) : am_go sc d 2 (15, [some (.ref 112), some (.ref x1), l2, some (.int x3), l4], [], (am_SH, I, J, Pf), k, n) P := by
  refine am_s_aload_n rfl dc2_1.1.1.2 ?_
  refine am_s_aload_n rfl dc2_1.1.2.1 ?_
  exact am_s_virtual true dc2_1.1.2.2 rfl (by decide) rfl rfl rfl (q)
theorem v2_20 {sc : Option (Nat × (Nat → Int32))} {d k n : Nat} {P : am_O → Prop} {I : am_I} {J : am_J} {Pf : am_R} (hp : am_PF Pf) {x1 : Nat} (hx1 : am_SH[x1]? = some (.inl 9)) {l2 : Option Value} {x3 : Int32} {l4 : Option Value} (q : (am_go sc d 2 (23, [some (.ref 112), some (.ref x1), l2, some (.int x3), some (.int x3)], [], (am_SH, I, J, Pf), k, n) P)) : am_go sc d 2 (20, [some (.ref 112), some (.ref x1), l2, some (.int x3), l4], [], (am_SH, I, J, Pf), k, n) P := by
  refine am_s_iload_n rfl dc2_1.2.1.1 ?_
  refine am_s_istore (ls' := [some (.ref 112), some (.ref x1), l2, some (.int x3), some (.int x3)]) rfl rfl dc2_1.2.1.2 ?_
  exact q
-- findQuotes (LPrunedParses$Table;II)V
theorem v3_0 {sc : Option (Nat × (Nat → Int32))} {d k n : Nat} {P : am_O → Prop} {I : am_I} {J : am_J} {Pf : am_R} (hp : am_PF Pf) {x1 : Nat} (hx1 : am_SH[x1]? = some (.inl 9)) {x2 : Int32} {x3 : Int32} {l4 : Option Value} {l5 : Option Value} (q : (am_go sc d 3 (3, [some (.ref 112), some (.ref x1), some (.int x2), some (.int x3), some (.int 0), l5], [], (am_SH, I, J, Pf), k, n) P)) : am_go sc d 3 (0, [some (.ref 112), some (.ref x1), some (.int x2), some (.int x3), l4, l5], [], (am_SH, I, J, Pf), k, n) P := by
  refine am_s_iconst am_cc0 dc3_0.1.1.1 ?_
  refine am_s_istore (ls' := [some (.ref 112), some (.ref x1), some (.int x2), some (.int x3), some (.int 0), l5]) rfl rfl dc3_0.1.1.2 ?_
  exact q
theorem v3_3 {sc : Option (Nat × (Nat → Int32))} {d k n : Nat} {P : am_O → Prop} {I : am_I} {J : am_J} {Pf : am_R} (hp : am_PF Pf) {x1 : Nat} (hx1 : am_SH[x1]? = some (.inl 9)) {x2 : Int32} {x3 : Int32} {x4 : Int32} {l5 : Option Value} (q : ∃ r112_0x1 : Nat, (Pf 112 0 = some r112_0x1) ∧ (am_SH[r112_0x1]? = some (.inl 4)) ∧ (if (I r112_0x1 9) ≤ x4 then (P (.inl none, (am_SH, I, J, Pf), k, n)) else (am_go sc d 3 (18, [some (.ref 112), some (.ref x1), some (.int x2), some (.int x3), some (.int x4), some (.int x3)], [], (am_SH, I, J, Pf), k, n) P))) : am_go sc d 3 (3, [some (.ref 112), some (.ref x1), some (.int x2), some (.int x3), some (.int x4), l5], [], (am_SH, I, J, Pf), k, n) P := by
  refine am_s_iload rfl dc3_0.1.2.1 ?_
  refine am_s_aload_n rfl dc3_0.1.2.2 ?_
  obtain ⟨r112_0x1, qx1⟩ := q
  refine am_s_getR (r := r112_0x1) dc3_0.2.1.1 rfl rfl rfl (qx1.1) ?_
  refine am_x_getI (x := I r112_0x1 9) dc3_0.2.1.2 rfl (qx1.2.1) (Or.inl rfl) rfl ?_
  refine am_s_ic_ge dc3_0.2.2.1 rfl (fun c1 => ?_) (fun c1 => ?_)
  · exact am_s_return dc3_3.2.2.2 rfl ((vi_t qx1.2.2 c1))
  · refine am_s_iload_n rfl dc3_0.2.2.2 ?_
    refine am_s_istore (ls' := [some (.ref 112), some (.ref x1), some (.int x2), some (.int x3), some (.int x4), some (.int x3)]) rfl rfl dc3_1.1.1.1 ?_
    exact (vi_f qx1.2.2 c1)
theorem v3_18 {sc : Option (Nat × (Nat → Int32))} {d k n : Nat} {P : am_O → Prop} {I : am_I} {J : am_J} {Pf : am_R} (hp : am_PF Pf) {x1 : Nat} (hx1 : am_SH[x1]? = some (.inl 9)) {x2 : Int32} {x3 : Int32} {x4 : Int32} {x5 : Int32} (q : (if x5 < 0 then (am_go sc d 3 (3, [some (.ref 112), some (.ref x1), some (.int x2), some (.int x3), some (.int (x4 + 1)), some (.int x5)], [], (am_SH, I, J, Pf), k, n) P) else (am_mth d 4 [.ref 112, .ref x1, .int x2, .int x4, .int x5] (am_SH, I, J, Pf) (am_af sc d 3 42 [some (.ref 112), some (.ref x1), some (.int x2), some (.int x3), some (.int x4), some (.int x5)] [.int x5, .int x4, .int x2, .ref x1, .ref 112, .int ((x4 * 25) + x5), .ref (x1 + 4)] [.int ((x4 * 25) + x5), .ref (x1 + 4)] (am_SH, I, J, Pf) k n true P)))) : am_go sc d 3 (18, [some (.ref 112), some (.ref x1), some (.int x2), some (.int x3), some (.int x4), some (.int x5)], [], (am_SH, I, J, Pf), k, n) P := by
  refine am_s_iload rfl dc3_1.1.1.2 ?_
  refine am_s_if_lt dc3_1.1.2.1 rfl (fun c1 => ?_) (fun c1 => ?_)
  · refine am_s_iinc (ls' := [some (.ref 112), some (.ref x1), some (.int x2), some (.int x3), some (.int (x4 + 1)), some (.int x5)]) am_cc1 rfl rfl dc3_3.2.1 ?_
    refine am_s_goto rfl dc3_3.2.2.1 ?_
    exact (vi_t q c1)
  · refine am_s_aload_n rfl dc3_1.1.2.2 ?_
    refine am_s_getR (r := x1 + 4) dc3_1.2.1.1 rfl hx1 rfl (am_r9_4 hp hx1) ?_
    refine am_s_iload rfl dc3_1.2.1.2 ?_
    refine am_s_bipush am_cb25 dc3_1.2.2.1 ?_
    refine am_s_imul dc3_1.2.2.2 ?_
    refine am_s_iload rfl dc3_2.1.1.1 ?_
    refine am_s_iadd dc3_2.1.1.2 ?_
    refine am_s_aload_n rfl dc3_2.1.2.1 ?_
    refine am_s_aload_n rfl dc3_2.1.2.2 ?_
    refine am_s_iload_n rfl dc3_2.2.1.1 ?_
    refine am_s_iload rfl dc3_2.2.1.2 ?_
    refine am_s_iload rfl dc3_2.2.2.1 ?_
    exact am_s_virtual true dc3_2.2.2.2 rfl (by decide) rfl rfl rfl ((vi_f q c1))
theorem v3_45 {sc : Option (Nat × (Nat → Int32))} {d k n : Nat} {P : am_O → Prop} {I : am_I} {J : am_J} {Pf : am_R} (hp : am_PF Pf) {x1 : Nat} (hx1 : am_SH[x1]? = some (.inl 9)) {x2 : Int32} {x3 : Int32} {x4 : Int32} {x5 : Int32} {s0 : Nat} (hs0 : am_SH[s0]? = some (.inr (0, 100))) {s1 : Int32} {s2 : Int32} (q : (am_in s1 100 = true) ∧ (am_go sc d 3 (18, [some (.ref 112), some (.ref x1), some (.int x2), some (.int x3), some (.int x4), some (.int (x5 + (-1)))], [], (am_SH, am_u I s0 (Int32.toNatClampNeg s1) s2, J, Pf), k, n) P)) : am_go sc d 3 (45, [some (.ref 112), some (.ref x1), some (.int x2), some (.int x3), some (.int x4), some (.int x5)], [.int s2, .int s1, .ref s0], (am_SH, I, J, Pf), k, n) P := by
  refine am_s_iastore dc3_3.1.1 hs0 (q.1) rfl ?_
  refine am_s_iinc (ls' := [some (.ref 112), some (.ref x1), some (.int x2), some (.int x3), some (.int x4), some (.int (x5 + (-1)))]) am_ccm1 rfl rfl dc3_3.1.2.1 ?_
  refine am_s_goto rfl dc3_3.1.2.2 ?_
  exact q.2
-- quoteEnd (LPrunedParses$Table;III)I
theorem v4_0 {sc : Option (Nat × (Nat → Int32))} {d k n : Nat} {P : am_O → Prop} {I : am_I} {J : am_J} {Pf : am_R} (hp : am_PF Pf) {x1 : Nat} (hx1 : am_SH[x1]? = some (.inl 9)) {x2 : Int32} {x3 : Int32} {x4 : Int32} {l5 : Option Value} {l6 : Option Value} (q : (if x2 < 0 then (P (.inl (some (.int (-1))), (am_SH, I, J, Pf), k, n)) else (if x2 < 3 then (am_in x2 3 = true) ∧ ∃ r20x1 : Nat, (Pf 113 (Int32.toNatClampNeg x2) = some r20x1) ∧ (am_SH[r20x1]? = some (.inl 9)) ∧ ∃ r112_0x2 : Nat, (Pf 112 0 = some r112_0x2) ∧ (am_SH[r112_0x2]? = some (.inl 4)) ∧ (am_mth d 115 [.ref x1, .ref r112_0x2, .int x3, .int x4, .ref r20x1] (am_SH, I, J, Pf) (am_af sc d 4 33 [some (.ref 112), some (.ref x1), some (.int x2), some (.int x3), some (.int x4), some (.ref r20x1), l6] [.ref r20x1, .int x4, .int x3, .ref r112_0x2, .ref x1] [] (am_SH, I, J, Pf) k n false P)) else (P (.inl (some (.int (-1))), (am_SH, I, J, Pf), k, n))))) : am_go sc d 4 (0, [some (.ref 112), some (.ref x1), some (.int x2), some (.int x3), some (.int x4), l5, l6], [], (am_SH, I, J, Pf), k, n) P := by
  refine am_s_iload_n rfl dc4_0.1.1.1 ?_
  refine am_s_if_lt dc4_0.1.1.2 rfl (fun c1 => ?_) (fun c1 => ?_)
  · refine am_s_iconst am_ccm1 dc4_0.2.2.2 ?_
    exact am_s_ireturn dc4_1.1.1.1 rfl ((vi_t q c1))
  · refine am_s_iload_n rfl dc4_0.1.2.1 ?_
    refine am_s_aload_n rfl dc4_0.1.2.2 ?_
    refine am_s_getR (r := 113) dc4_0.2.1.1 rfl rfl rfl (hp _ _ _ rfl) ?_
    refine am_s_lenq (x := 3) dc4_0.2.1.2 rfl rfl rfl (by decide +kernel) ?_
    refine am_s_ic_lt dc4_0.2.2.1 rfl (fun c2 => ?_) (fun c2 => ?_)
    · refine am_s_aload_n rfl dc4_1.1.1.2 ?_
      refine am_s_getR (r := 113) dc4_1.1.2.1 rfl rfl rfl (hp _ _ _ rfl) ?_
      refine am_s_iload_n rfl dc4_1.1.2.2 ?_
      obtain ⟨r20x1, qx1⟩ := (vi_t (vi_f q c1) c2).2
      refine am_s_aaload (r := r20x1) dc4_1.2.1.1 rfl rfl ((vi_t (vi_f q c1) c2).1) (qx1.1) ?_
      refine am_s_astore (ls' := [some (.ref 112), some (.ref x1), some (.int x2), some (.int x3), some (.int x4), some (.ref r20x1), l6]) rfl rfl dc4_1.2.1.2 ?_
      refine am_s_aload_n rfl dc4_1.2.2.1 ?_
      refine am_s_aload_n rfl dc4_1.2.2.2 ?_
      obtain ⟨r112_0x2, qx2⟩ := qx1.2.2
      refine am_s_getR (r := r112_0x2) dc4_2.1.1.1 rfl rfl rfl (qx2.1) ?_
      refine am_s_iload_n rfl dc4_2.1.1.2 ?_
      refine am_s_iload rfl dc4_2.1.2.1 ?_
      refine am_s_aload rfl dc4_2.1.2.2 ?_
      exact am_s_virtual false dc4_2.2.1.1 rfl (by decide) rfl hx1 rfl (qx2.2.2)
    · refine am_s_iconst am_ccm1 dc4_0.2.2.2 ?_
      exact am_s_ireturn dc4_1.1.1.1 rfl ((vi_f (vi_f q c1) c2))
theorem v4_36 {sc : Option (Nat × (Nat → Int32))} {d k n : Nat} {P : am_O → Prop} {I : am_I} {J : am_J} {Pf : am_R} (hp : am_PF Pf) {l1 : Option Value} {x2 : Int32} {x3 : Int32} {l4 : Option Value} {x5 : Nat} (hx5 : am_SH[x5]? = some (.inl 9)) {l6 : Option Value} {s0 : Int32} (q : (if s0 = (-1) then (P (.inl (some (.int (-1))), (am_SH, I, J, Pf), k, n)) else (am_mth d 5 [.ref 112, .ref x5, .int (x2 + 1)] (am_SH, I, J, Pf) (am_af sc d 4 52 [some (.ref 112), l1, some (.int x2), some (.int x3), l4, some (.ref x5), some (.int s0)] [.int (x2 + 1), .ref x5, .ref 112] [] (am_SH, I, J, Pf) k n true P)))) : am_go sc d 4 (36, [some (.ref 112), l1, some (.int x2), some (.int x3), l4, some (.ref x5), l6], [.int s0], (am_SH, I, J, Pf), k, n) P := by
  refine am_s_istore (ls' := [some (.ref 112), l1, some (.int x2), some (.int x3), l4, some (.ref x5), some (.int s0)]) rfl rfl dc4_2.2.1.2 ?_
  refine am_s_iload rfl dc4_2.2.2.1 ?_
  refine am_s_iconst am_ccm1 dc4_2.2.2.2 ?_
  refine am_s_ic_ne dc4_3.1.1.1 rfl (fun c1 => ?_) (fun c1 => ?_)
  · refine am_s_aload_n rfl dc4_3.1.2.2 ?_
    refine am_s_aload rfl dc4_3.2.1.1 ?_
    refine am_s_iload_n rfl dc4_3.2.1.2 ?_
    refine am_s_iconst am_cc1 dc4_3.2.2.1 ?_
    refine am_s_iadd dc4_3.2.2.2 ?_
    exact am_s_virtual true dc4_4.1.1.1 rfl (by decide) rfl rfl rfl ((vi_f q c1))
  · refine am_s_iconst am_ccm1 dc4_3.1.1.2 ?_
    exact am_s_ireturn dc4_3.1.2.1 rfl ((vi_t q (Decidable.not_not.mp c1)))
theorem v4_55 {sc : Option (Nat × (Nat → Int32))} {d k n : Nat} {P : am_O → Prop} {I : am_I} {J : am_J} {Pf : am_R} (hp : am_PF Pf) {l1 : Option Value} {l2 : Option Value} {x3 : Int32} {l4 : Option Value} {l5 : Option Value} {x6 : Int32} {s0 : Int32} (q : ∃ r112_0x1 : Nat, (Pf 112 0 = some r112_0x1) ∧ (am_SH[r112_0x1]? = some (.inl 4)) ∧ (am_in x3 4 = true) ∧ (if ((UInt32.toInt32 (Int32.toUInt32 s0 >>> (Int32.toUInt32 (I (r112_0x1 + 9) (Int32.toNatClampNeg x3)) &&& Int32.toUInt32 31))) &&& 1) = 0 then (P (.inl (some (.int (-1))), (am_SH, I, J, Pf), k, n)) else (P (.inl (some (.int x6)), (am_SH, I, J, Pf), k, n)))) : am_go sc d 4 (55, [some (.ref 112), l1, l2, some (.int x3), l4, l5, some (.int x6)], [.int s0], (am_SH, I, J, Pf), k, n) P := by
  refine am_s_aload_n rfl dc4_4.1.1.2 ?_
  obtain ⟨r112_0x1, qx1⟩ := q
  refine am_s_getR (r := r112_0x1) dc4_4.1.2.1 rfl rfl rfl (qx1.1) ?_
  refine am_s_getR (r := r112_0x1 + 9) dc4_4.1.2.2 rfl (qx1.2.1) rfl (am_r4_11 hp (qx1.2.1)) ?_
  refine am_s_iload_n rfl dc4_4.2.1.1 ?_
  refine am_x_iaload (x := I (r112_0x1 + 9) (Int32.toNatClampNeg x3)) dc4_4.2.1.2 (am_h4_11 (qx1.2.1)) (qx1.2.2.1) rfl rfl ?_
  refine am_s_iushr dc4_4.2.2.1 ?_
  refine am_s_iconst am_cc1 dc4_4.2.2.2 ?_
  refine am_s_iand dc4_5.1.1 ?_
  refine am_s_if_eq dc4_5.1.2.1 rfl (fun c1 => ?_) (fun c1 => ?_)
  · refine am_s_iconst am_ccm1 dc4_5.2.2.1 ?_
    exact am_s_ireturn dc4_5.2.2.2 rfl ((vi_t qx1.2.2.2 c1))
  · refine am_s_iload rfl dc4_5.1.2.2 ?_
    refine am_s_goto rfl dc4_5.2.1 ?_
    exact am_s_ireturn dc4_5.2.2.2 rfl ((vi_f qx1.2.2.2 c1))
-- sortsOfBody (LPrunedParses$Table;I)I
theorem v5_0 {sc : Option (Nat × (Nat → Int32))} {d k n : Nat} {P : am_O → Prop} {I : am_I} {J : am_J} {Pf : am_R} (hp : am_PF Pf) {x1 : Nat} (hx1 : am_SH[x1]? = some (.inl 9)) {x2 : Int32} {l3 : Option Value} {l4 : Option Value} {l5 : Option Value} {l6 : Option Value} {l7 : Option Value} {l8 : Option Value} {l9 : Option Value} {l10 : Option Value} (q : (am_mth d 6 [.ref x1, .int 0] (am_SH, I, J, Pf) (am_af sc d 5 2 [some (.ref 112), some (.ref x1), some (.int x2), l3, l4, l5, l6, l7, l8, l9, l10] [.int 0, .ref x1] [] (am_SH, I, J, Pf) k n false P))) : am_go sc d 5 (0, [some (.ref 112), some (.ref x1), some (.int x2), l3, l4, l5, l6, l7, l8, l9, l10], [], (am_SH, I, J, Pf), k, n) P := by
  refine am_s_aload_n rfl dc5_0.1.1.1 ?_
  refine am_s_iconst am_cc0 dc5_0.1.1.2 ?_
  exact am_s_static dc5_0.1.2.1 rfl rfl rfl (q)
theorem v5_49 {sc : Option (Nat × (Nat → Int32))} {d k n : Nat} {P : am_O → Prop} {I : am_I} {J : am_J} {Pf : am_R} (hp : am_PF Pf) {x1 : Nat} (hx1 : am_SH[x1]? = some (.inl 9)) {x2 : Int32} {x3 : Int64} {l4 : Option Value} {x5 : Int64} {l6 : Option Value} {x7 : Int64} {l8 : Option Value} {x9 : Int32} {x10 : Int32} (q : (if 256 ≤ x10 then (am_go sc d 5 (140, [some (.ref 112), some (.ref x1), some (.int x2), some (.long x3), l4, some (.long x5), l6, some (.long x7), l8, some (.int x9), some (.int x10)], [], (am_SH, I, J, Pf), k, n) P) else (am_in x9 256 = true) ∧ (if (I 119 (Int32.toNatClampNeg x9)) = (-1) then (am_go sc d 5 (140, [some (.ref 112), some (.ref x1), some (.int x2), some (.long x3), l4, some (.long x5), l6, some (.long x7), l8, some (.int x9), some (.int x10)], [], (am_SH, I, J, Pf), k, n) P) else (am_in (x9 * 3) 768 = true) ∧ (if (lg_cmp (J 118 (Int32.toNatClampNeg (x9 * 3))) x3) = 0 then (am_in ((x9 * 3) + 1) 768 = true) ∧ (if (lg_cmp (J 118 (Int32.toNatClampNeg ((x9 * 3) + 1))) x5) = 0 then (am_in ((x9 * 3) + 2) 768 = true) ∧ (if (lg_cmp (J 118 (Int32.toNatClampNeg ((x9 * 3) + 2))) x7) = 0 then (am_in x9 256 = true) ∧ (P (.inl (some (.int (I 119 (Int32.toNatClampNeg x9)))), (am_SH, I, J, Pf), k, n)) else (am_go sc d 5 (124, [some (.ref 112), some (.ref x1), some (.int x2), some (.long x3), l4, some (.long x5), l6, some (.long x7), l8, some (.int x9), some (.int x10)], [], (am_SH, I, J, Pf), k, n) P)) else (am_go sc d 5 (124, [some (.ref 112), some (.ref x1), some (.int x2), some (.long x3), l4, some (.long x5), l6, some (.long x7), l8, some (.int x9), some (.int x10)], [], (am_SH, I, J, Pf), k, n) P)) else (am_go sc d 5 (124, [some (.ref 112), some (.ref x1), some (.int x2), some (.long x3), l4, some (.long x5), l6, some (.long x7), l8, some (.int x9), some (.int x10)], [], (am_SH, I, J, Pf), k, n) P))))) : am_go sc d 5 (49, [some (.ref 112), some (.ref x1), some (.int x2), some (.long x3), l4, some (.long x5), l6, some (.long x7), l8, some (.int x9), some (.int x10)], [], (am_SH, I, J, Pf), k, n) P := by
  refine am_s_iload rfl dc5_3.2.2.1 ?_
  refine am_s_sipush am_cs256 dc5_3.2.2.2 ?_
  refine am_s_ic_ge dc5_4.1.1.1 rfl (fun c1 => ?_) (fun c1 => ?_)
  · exact (vi_t q c1)
  · refine am_s_aload_n rfl dc5_4.1.1.2 ?_
    refine am_s_getR (r := 119) dc5_4.1.2.1 rfl rfl rfl (hp _ _ _ rfl) ?_
    refine am_s_iload rfl dc5_4.1.2.2 ?_
    refine am_x_iaload (x := I 119 (Int32.toNatClampNeg x9)) dc5_4.2.1.1 rfl ((vi_f q c1).1) rfl rfl ?_
    refine am_s_iconst am_ccm1 dc5_4.2.1.2 ?_
    refine am_s_ic_eq dc5_4.2.2.1 rfl (fun c2 => ?_) (fun c2 => ?_)
    · exact (vi_t (vi_f q c1).2 c2)
    · refine am_s_aload_n rfl dc5_4.2.2.2 ?_
      refine am_s_getR (r := 118) dc5_5.1.1.1 rfl rfl rfl (hp _ _ _ rfl) ?_
      refine am_s_iload rfl dc5_5.1.1.2 ?_
      refine am_s_iconst am_cc3 dc5_5.1.2.1 ?_
      refine am_s_imul dc5_5.1.2.2 ?_
      refine am_x_laload (x := J 118 (Int32.toNatClampNeg (x9 * 3))) dc5_5.2.1.1 rfl ((vi_f (vi_f q c1).2 c2).1) rfl rfl ?_
      refine am_s_lload_n rfl dc5_5.2.1.2 ?_
      refine am_s_lcmp dc5_5.2.2.1 ?_
      refine am_s_if_ne dc5_5.2.2.2 rfl (fun c3 => ?_) (fun c3 => ?_)
      · exact (vi_f (vi_f (vi_f q c1).2 c2).2 c3)
      · refine am_s_aload_n rfl dc5_6.1.1.1 ?_
        refine am_s_getR (r := 118) dc5_6.1.1.2 rfl rfl rfl (hp _ _ _ rfl) ?_
        refine am_s_iload rfl dc5_6.1.2.1 ?_
        refine am_s_iconst am_cc3 dc5_6.1.2.2 ?_
        refine am_s_imul dc5_6.2.1.1 ?_
        refine am_s_iconst am_cc1 dc5_6.2.1.2 ?_
        refine am_s_iadd dc5_6.2.2.1 ?_
        refine am_x_laload (x := J 118 (Int32.toNatClampNeg ((x9 * 3) + 1))) dc5_6.2.2.2 rfl ((vi_t (vi_f (vi_f q c1).2 c2).2 (Decidable.not_not.mp c3)).1) rfl rfl ?_
        refine am_s_lload rfl dc5_7.1.1.1 ?_
        refine am_s_lcmp dc5_7.1.1.2 ?_
        refine am_s_if_ne dc5_7.1.2.1 rfl (fun c4 => ?_) (fun c4 => ?_)
        · exact (vi_f (vi_t (vi_f (vi_f q c1).2 c2).2 (Decidable.not_not.mp c3)).2 c4)
        · refine am_s_aload_n rfl dc5_7.1.2.2 ?_
          refine am_s_getR (r := 118) dc5_7.2.1.1 rfl rfl rfl (hp _ _ _ rfl) ?_
          refine am_s_iload rfl dc5_7.2.1.2 ?_
          refine am_s_iconst am_cc3 dc5_7.2.2.1 ?_
          refine am_s_imul dc5_7.2.2.2 ?_
          refine am_s_iconst am_cc2 dc5_8.1.1.1 ?_
          refine am_s_iadd dc5_8.1.1.2 ?_
          refine am_x_laload (x := J 118 (Int32.toNatClampNeg ((x9 * 3) + 2))) dc5_8.1.2.1 rfl ((vi_t (vi_t (vi_f (vi_f q c1).2 c2).2 (Decidable.not_not.mp c3)).2 (Decidable.not_not.mp c4)).1) rfl rfl ?_
          refine am_s_lload rfl dc5_8.1.2.2 ?_
          refine am_s_lcmp dc5_8.2.1.1 ?_
          refine am_s_if_ne dc5_8.2.1.2 rfl (fun c5 => ?_) (fun c5 => ?_)
          · exact (vi_f (vi_t (vi_t (vi_f (vi_f q c1).2 c2).2 (Decidable.not_not.mp c3)).2 (Decidable.not_not.mp c4)).2 c5)
          · refine am_s_aload_n rfl dc5_8.2.2.1 ?_
            refine am_s_getR (r := 119) dc5_8.2.2.2 rfl rfl rfl (hp _ _ _ rfl) ?_
            refine am_s_iload rfl dc5_9.1.1.1 ?_
            refine am_x_iaload (x := I 119 (Int32.toNatClampNeg x9)) dc5_9.1.1.2 rfl ((vi_t (vi_t (vi_t (vi_f (vi_f q c1).2 c2).2 (Decidable.not_not.mp c3)).2 (Decidable.not_not.mp c4)).2 (Decidable.not_not.mp c5)).1) rfl rfl ?_
            exact am_s_ireturn dc5_9.1.2.1 rfl ((vi_t (vi_t (vi_t (vi_f (vi_f q c1).2 c2).2 (Decidable.not_not.mp c3)).2 (Decidable.not_not.mp c4)).2 (Decidable.not_not.mp c5)).2)
theorem v5_124 {sc : Option (Nat × (Nat → Int32))} {d k n : Nat} {P : am_O → Prop} {I : am_I} {J : am_J} {Pf : am_R} (hp : am_PF Pf) {x1 : Nat} (hx1 : am_SH[x1]? = some (.inl 9)) {x2 : Int32} {x3 : Int64} {l4 : Option Value} {x5 : Int64} {l6 : Option Value} {x7 : Int64} {l8 : Option Value} {x9 : Int32} {x10 : Int32} (hl8 : am_k1 l8 = true) (q : (am_go sc d 5 (49, [some (.ref 112), some (.ref x1), some (.int x2), some (.long x3), l4, some (.long x5), l6, some (.long x7), l8, some (.int ((x9 + 1) &&& 255)), some (.int (x10 + 1))], [], (am_SH, I, J, Pf), k, n) P)) : am_go sc d 5 (124, [some (.ref 112), some (.ref x1), some (.int x2), some (.long x3), l4, some (.long x5), l6, some (.long x7), l8, some (.int x9), some (.int x10)], [], (am_SH, I, J, Pf), k, n) P := by
  refine am_s_iload rfl dc5_9.1.2.2 ?_
  refine am_s_iconst am_cc1 dc5_9.2.1.1 ?_
  refine am_s_iadd dc5_9.2.1.2 ?_
  refine am_s_sipush am_cs255 dc5_9.2.2.1 ?_
  refine am_s_iand dc5_9.2.2.2 ?_
  refine am_s_istore (ls' := [some (.ref 112), some (.ref x1), some (.int x2), some (.long x3), l4, some (.long x5), l6, some (.long x7), l8, some (.int ((x9 + 1) &&& 255)), some (.int x10)]) rfl (am_set1_k (am_kill_x (j := 8) rfl hl8) rfl) dc5_10.1.1.1 ?_
  refine am_s_iinc (ls' := [some (.ref 112), some (.ref x1), some (.int x2), some (.long x3), l4, some (.long x5), l6, some (.long x7), l8, some (.int ((x9 + 1) &&& 255)), some (.int (x10 + 1))]) am_cc1 rfl rfl dc5_10.1.1.2 ?_
  refine am_s_goto rfl dc5_10.1.2.1 ?_
  exact q
theorem v5_140 {sc : Option (Nat × (Nat → Int32))} {d k n : Nat} {P : am_O → Prop} {I : am_I} {J : am_J} {Pf : am_R} (hp : am_PF Pf) {x1 : Nat} (hx1 : am_SH[x1]? = some (.inl 9)) {x2 : Int32} {x3 : Int64} {l4 : Option Value} {x5 : Int64} {l6 : Option Value} {x7 : Int64} {l8 : Option Value} {l9 : Option Value} {l10 : Option Value} (q : (am_mth d 2 [.ref 112, .ref x1, .int x2, .int (I x1 1)] (am_SH, I, J, Pf) (am_af sc d 5 147 [some (.ref 112), some (.ref x1), some (.int x2), some (.long x3), l4, some (.long x5), l6, some (.long x7), l8, l9, l10] [.int (I x1 1), .int x2, .ref x1, .ref 112] [] (am_SH, I, J, Pf) k n true P))) : am_go sc d 5 (140, [some (.ref 112), some (.ref x1), some (.int x2), some (.long x3), l4, some (.long x5), l6, some (.long x7), l8, l9, l10], [], (am_SH, I, J, Pf), k, n) P := by
  refine am_s_aload_n rfl dc5_10.1.2.2 ?_
  refine am_s_aload_n rfl dc5_10.2.1.1 ?_
  refine am_s_iload_n rfl dc5_10.2.1.2 ?_
  refine am_s_aload_n rfl dc5_10.2.2.1 ?_
  refine am_x_getI (x := I x1 1) dc5_10.2.2.2 rfl hx1 (Or.inl rfl) rfl ?_
  exact am_s_virtual true dc5_11.1.1.1 rfl (by decide) rfl rfl rfl (q)
theorem v5_5 {sc : Option (Nat × (Nat → Int32))} {d k n : Nat} {P : am_O → Prop} {I : am_I} {J : am_J} {Pf : am_R} (hp : am_PF Pf) {x1 : Nat} (hx1 : am_SH[x1]? = some (.inl 9)) {x2 : Int32} {l3 : Option Value} {l4 : Option Value} {l5 : Option Value} {l6 : Option Value} {l7 : Option Value} {l8 : Option Value} {l9 : Option Value} {l10 : Option Value} {s0 : Int64} (q : (am_mth d 6 [.ref x1, .int 9] (am_SH, I, J, Pf) (am_af sc d 5 9 [some (.ref 112), some (.ref x1), some (.int x2), some (.long s0), none, l5, l6, l7, l8, l9, l10] [.int 9, .ref x1] [] (am_SH, I, J, Pf) k n false P))) : am_go sc d 5 (5, [some (.ref 112), some (.ref x1), some (.int x2), l3, l4, l5, l6, l7, l8, l9, l10], [.long s0], (am_SH, I, J, Pf), k, n) P := by
  refine am_s_lstore_n (ls' := [some (.ref 112), some (.ref x1), some (.int x2), some (.long s0), none, l5, l6, l7, l8, l9, l10]) rfl rfl dc5_0.1.2.2 ?_
  refine am_s_aload_n rfl dc5_0.2.1.1 ?_
  refine am_s_bipush am_cb9 dc5_0.2.1.2 ?_
  exact am_s_static dc5_0.2.2.1 rfl rfl rfl (q)
theorem v5_150 {sc : Option (Nat × (Nat → Int32))} {d k n : Nat} {P : am_O → Prop} {I : am_I} {J : am_J} {Pf : am_R} (hp : am_PF Pf) {x1 : Nat} (hx1 : am_SH[x1]? = some (.inl 9)) {l2 : Option Value} {x3 : Int64} {l4 : Option Value} {x5 : Int64} {l6 : Option Value} {x7 : Int64} {l8 : Option Value} {l9 : Option Value} {l10 : Option Value} (q : (am_mth d 119 [.ref x1] (am_SH, I, J, Pf) (am_af sc d 5 151 [some (.ref 112), some (.ref x1), l2, some (.long x3), l4, some (.long x5), l6, some (.long x7), l8, l9, l10] [.ref x1] [] (am_SH, I, J, Pf) k n false P))) : am_go sc d 5 (150, [some (.ref 112), some (.ref x1), l2, some (.long x3), l4, some (.long x5), l6, some (.long x7), l8, l9, l10], [], (am_SH, I, J, Pf), k, n) P := by
  refine am_s_aload_n rfl dc5_11.1.1.2 ?_
  exact am_s_virtual false dc5_11.1.2.1 rfl (by decide) rfl hx1 rfl (q)
theorem v5_12 {sc : Option (Nat × (Nat → Int32))} {d k n : Nat} {P : am_O → Prop} {I : am_I} {J : am_J} {Pf : am_R} (hp : am_PF Pf) {x1 : Nat} (hx1 : am_SH[x1]? = some (.inl 9)) {x2 : Int32} {x3 : Int64} {l4 : Option Value} {l5 : Option Value} {l6 : Option Value} {l7 : Option Value} {l8 : Option Value} {l9 : Option Value} {l10 : Option Value} {s0 : Int64} (hl4 : am_k1 l4 = true) (q : (am_mth d 6 [.ref x1, .int 18] (am_SH, I, J, Pf) (am_af sc d 5 17 [some (.ref 112), some (.ref x1), some (.int x2), some (.long x3), l4, some (.long s0), none, l7, l8, l9, l10] [.int 18, .ref x1] [] (am_SH, I, J, Pf) k n false P))) : am_go sc d 5 (12, [some (.ref 112), some (.ref x1), some (.int x2), some (.long x3), l4, l5, l6, l7, l8, l9, l10], [.long s0], (am_SH, I, J, Pf), k, n) P := by
  refine am_s_lstore (ls' := [some (.ref 112), some (.ref x1), some (.int x2), some (.long x3), l4, some (.long s0), none, l7, l8, l9, l10]) rfl (am_set2_k (am_kill_x (j := 4) rfl hl4) rfl) dc5_0.2.2.2 ?_
  refine am_s_aload_n rfl dc5_1.1.1.1 ?_
  refine am_s_bipush am_cb18 dc5_1.1.1.2 ?_
  exact am_s_static dc5_1.1.2.1 rfl rfl rfl (q)
theorem v5_154 {sc : Option (Nat × (Nat → Int32))} {d k n : Nat} {P : am_O → Prop} {I : am_I} {J : am_J} {Pf : am_R} (hp : am_PF Pf) {l1 : Option Value} {l2 : Option Value} {x3 : Int64} {l4 : Option Value} {x5 : Int64} {l6 : Option Value} {x7 : Int64} {l8 : Option Value} {l9 : Option Value} {l10 : Option Value} {s0 : Int32} (hl9 : am_k1 l9 = true) (q : (am_mth d 8 [.ref 112, .long x3, .long x5, .long x7, .int s0] (am_SH, I, J, Pf) (am_af sc d 5 164 [some (.ref 112), l1, l2, some (.long x3), l4, some (.long x5), l6, some (.long x7), l8, l9, some (.int s0)] [.int s0, .long x7, .long x5, .long x3, .ref 112] [] (am_SH, I, J, Pf) k n true P))) : am_go sc d 5 (154, [some (.ref 112), l1, l2, some (.long x3), l4, some (.long x5), l6, some (.long x7), l8, l9, l10], [.int s0], (am_SH, I, J, Pf), k, n) P := by
  refine am_s_istore (ls' := [some (.ref 112), l1, l2, some (.long x3), l4, some (.long x5), l6, some (.long x7), l8, l9, some (.int s0)]) rfl (am_set1_k (am_kill_x (j := 9) rfl hl9) rfl) dc5_11.1.2.2 ?_
  refine am_s_aload_n rfl dc5_11.2.1.1 ?_
  refine am_s_lload_n rfl dc5_11.2.1.2 ?_
  refine am_s_lload rfl dc5_11.2.2.1 ?_
  refine am_s_lload rfl dc5_11.2.2.2 ?_
  refine am_s_iload rfl dc5_12.1.1 ?_
  exact am_s_virtual true dc5_12.1.2 rfl (by decide) rfl rfl rfl (q)
theorem v5_20 {sc : Option (Nat × (Nat → Int32))} {d k n : Nat} {P : am_O → Prop} {I : am_I} {J : am_J} {Pf : am_R} (hp : am_PF Pf) {x1 : Nat} (hx1 : am_SH[x1]? = some (.inl 9)) {x2 : Int32} {x3 : Int64} {l4 : Option Value} {x5 : Int64} {l6 : Option Value} {l7 : Option Value} {l8 : Option Value} {l9 : Option Value} {l10 : Option Value} {s0 : Int64} (hl6 : am_k1 l6 = true) (q : (am_mth d 7 [.long x3, .long x5, .long (((s0 <<< (Int32.toInt64 8 &&& 63)) ||| (Int32.toInt64 ((I x1 1) <<< ((2 : Int32) &&& 31)))) ||| (Int32.toInt64 x2))] (am_SH, I, J, Pf) (am_af sc d 5 41 [some (.ref 112), some (.ref x1), some (.int x2), some (.long x3), l4, some (.long x5), l6, some (.long (((s0 <<< (Int32.toInt64 8 &&& 63)) ||| (Int32.toInt64 ((I x1 1) <<< ((2 : Int32) &&& 31)))) ||| (Int32.toInt64 x2))), none, l9, l10] [.long (((s0 <<< (Int32.toInt64 8 &&& 63)) ||| (Int32.toInt64 ((I x1 1) <<< ((2 : Int32) &&& 31)))) ||| (Int32.toInt64 x2)), .long x5, .long x3] [] (am_SH, I, J, Pf) k n false P))) : am_go sc d 5 (20, [some (.ref 112), some (.ref x1), some (.int x2), some (.long x3), l4, some (.long x5), l6, l7, l8, l9, l10], [.long s0], (am_SH, I, J, Pf), k, n) P := by
  refine am_s_bipush am_cb8 dc5_1.1.2.2 ?_
  refine am_s_lshl dc5_1.2.1.1 ?_
  refine am_s_aload_n rfl dc5_1.2.1.2 ?_
  refine am_x_getI (x := I x1 1) dc5_1.2.2.1 rfl hx1 (Or.inl rfl) rfl ?_
  refine am_s_iconst am_cc2 dc5_1.2.2.2 ?_
  refine am_s_ishl dc5_2.1.1.1 ?_
  refine am_s_i2l dc5_2.1.1.2 ?_
  refine am_s_lor dc5_2.1.2.1 ?_
  refine am_s_iload_n rfl dc5_2.1.2.2 ?_
  refine am_s_i2l dc5_2.2.1.1 ?_
  refine am_s_lor dc5_2.2.1.2 ?_
  refine am_s_lstore (ls' := [some (.ref 112), some (.ref x1), some (.int x2), some (.long x3), l4, some (.long x5), l6, some (.long (((s0 <<< (Int32.toInt64 8 &&& 63)) ||| (Int32.toInt64 ((I x1 1) <<< ((2 : Int32) &&& 31)))) ||| (Int32.toInt64 x2))), none, l9, l10]) rfl (am_set2_k (am_kill_x (j := 6) rfl hl6) rfl) dc5_2.2.2.1 ?_
  refine am_s_lload_n rfl dc5_2.2.2.2 ?_
  refine am_s_lload rfl dc5_3.1.1.1 ?_
  refine am_s_lload rfl dc5_3.1.1.2 ?_
  exact am_s_static dc5_3.1.2.1 rfl rfl rfl (q)
theorem v5_167 {sc : Option (Nat × (Nat → Int32))} {d k n : Nat} {P : am_O → Prop} {I : am_I} {J : am_J} {Pf : am_R} (hp : am_PF Pf) {l0 : Option Value} {l1 : Option Value} {l2 : Option Value} {l3 : Option Value} {l4 : Option Value} {l5 : Option Value} {l6 : Option Value} {l7 : Option Value} {l8 : Option Value} {l9 : Option Value} {x10 : Int32} (q : (P (.inl (some (.int x10)), (am_SH, I, J, Pf), k, n))) : am_go sc d 5 (167, [l0, l1, l2, l3, l4, l5, l6, l7, l8, l9, some (.int x10)], [], (am_SH, I, J, Pf), k, n) P := by
  refine am_s_iload rfl dc5_12.2.1 ?_
  exact am_s_ireturn dc5_12.2.2 rfl (q)
theorem v5_44 {sc : Option (Nat × (Nat → Int32))} {d k n : Nat} {P : am_O → Prop} {I : am_I} {J : am_J} {Pf : am_R} (hp : am_PF Pf) {x1 : Nat} (hx1 : am_SH[x1]? = some (.inl 9)) {x2 : Int32} {x3 : Int64} {l4 : Option Value} {x5 : Int64} {l6 : Option Value} {x7 : Int64} {l8 : Option Value} {l9 : Option Value} {l10 : Option Value} {s0 : Int32} (hl8 : am_k1 l8 = true) (q : (am_go sc d 5 (49, [some (.ref 112), some (.ref x1), some (.int x2), some (.long x3), l4, some (.long x5), l6, some (.long x7), l8, some (.int s0), some (.int 0)], [], (am_SH, I, J, Pf), k, n) P)) : am_go sc d 5 (44, [some (.ref 112), some (.ref x1), some (.int x2), some (.long x3), l4, some (.long x5), l6, some (.long x7), l8, l9, l10], [.int s0], (am_SH, I, J, Pf), k, n) P := by
  refine am_s_istore (ls' := [some (.ref 112), some (.ref x1), some (.int x2), some (.long x3), l4, some (.long x5), l6, some (.long x7), l8, some (.int s0), l10]) rfl (am_set1_k (am_kill_x (j := 8) rfl hl8) rfl) dc5_3.1.2.2 ?_
  refine am_s_iconst am_cc0 dc5_3.2.1.1 ?_
  refine am_s_istore (ls' := [some (.ref 112), some (.ref x1), some (.int x2), some (.long x3), l4, some (.long x5), l6, some (.long x7), l8, some (.int s0), some (.int 0)]) rfl rfl dc5_3.2.1.2 ?_
  exact q
-- packed (LPrunedParses$Table;I)J
theorem v6_0 {sc : Option (Nat × (Nat → Int32))} {d k n : Nat} {P : am_O → Prop} {I : am_I} {J : am_J} {Pf : am_R} (hp : am_PF Pf) {x0 : Nat} (hx0 : am_SH[x0]? = some (.inl 9)) {x1 : Int32} {l2 : Option Value} {l3 : Option Value} {l4 : Option Value} (q : (am_go sc d 6 (5, [some (.ref x0), some (.int x1), some (.long 0), none, some (.int x1)], [], (am_SH, I, J, Pf), k, n) P)) : am_go sc d 6 (0, [some (.ref x0), some (.int x1), l2, l3, l4], [], (am_SH, I, J, Pf), k, n) P := by
  refine am_s_lconst (x := 0) (by decide) dc6_0.1.1.1 ?_
  refine am_s_lstore_n (ls' := [some (.ref x0), some (.int x1), some (.long 0), none, l4]) rfl rfl dc6_0.1.1.2 ?_
  refine am_s_iload_n rfl dc6_0.1.2.1 ?_
  refine am_s_istore (ls' := [some (.ref x0), some (.int x1), some (.long 0), none, some (.int x1)]) rfl rfl dc6_0.1.2.2 ?_
  exact q
theorem v6_5 {sc : Option (Nat × (Nat → Int32))} {d k n : Nat} {P : am_O → Prop} {I : am_I} {J : am_J} {Pf : am_R} (hp : am_PF Pf) {x0 : Nat} (hx0 : am_SH[x0]? = some (.inl 9)) {x1 : Int32} {x2 : Int64} {l3 : Option Value} {x4 : Int32} (q : (if (x1 + 9) ≤ x4 then (P (.inl (some (.long x2)), (am_SH, I, J, Pf), k, n)) else (if (I x0 1) ≤ x4 then (P (.inl (some (.long x2)), (am_SH, I, J, Pf), k, n)) else (am_in x4 24 = true) ∧ (am_go sc d 6 (5, [some (.ref x0), some (.int x1), some (.long ((x2 <<< (Int32.toInt64 7 &&& 63)) ||| (Int32.toInt64 (I (x0 + 1) (Int32.toNatClampNeg x4))))), none, some (.int (x4 + 1))], [], (am_SH, I, J, Pf), k, n) P)))) : am_go sc d 6 (5, [some (.ref x0), some (.int x1), some (.long x2), l3, some (.int x4)], [], (am_SH, I, J, Pf), k, n) P := by
  refine am_s_iload rfl dc6_0.2.1.1 ?_
  refine am_s_iload_n rfl dc6_0.2.1.2 ?_
  refine am_s_bipush am_cb9 dc6_0.2.2.1 ?_
  refine am_s_iadd dc6_0.2.2.2 ?_
  refine am_s_ic_ge dc6_1.1.1.1 rfl (fun c1 => ?_) (fun c1 => ?_)
  · refine am_s_lload_n rfl dc6_3.2.1 ?_
    exact am_s_lreturn dc6_3.2.2 rfl ((vi_t q c1))
  · refine am_s_iload rfl dc6_1.1.1.2 ?_
    refine am_s_aload_n rfl dc6_1.1.2.1 ?_
    refine am_x_getI (x := I x0 1) dc6_1.1.2.2 rfl hx0 (Or.inl rfl) rfl ?_
    refine am_s_ic_ge dc6_1.2.1.1 rfl (fun c2 => ?_) (fun c2 => ?_)
    · refine am_s_lload_n rfl dc6_3.2.1 ?_
      exact am_s_lreturn dc6_3.2.2 rfl ((vi_t (vi_f q c1) c2))
    · refine am_s_lload_n rfl dc6_1.2.1.2 ?_
      refine am_s_bipush am_cb7 dc6_1.2.2.1 ?_
      refine am_s_lshl dc6_1.2.2.2 ?_
      refine am_s_aload_n rfl dc6_2.1.1.1 ?_
      refine am_s_getR (r := x0 + 1) dc6_2.1.1.2 rfl hx0 rfl (am_r9_0 hp hx0) ?_
      refine am_s_iload rfl dc6_2.1.2.1 ?_
      refine am_x_iaload (x := I (x0 + 1) (Int32.toNatClampNeg x4)) dc6_2.1.2.2 (am_h9_0 hx0) ((vi_f (vi_f q c1) c2).1) rfl rfl ?_
      refine am_s_i2l dc6_2.2.1.1 ?_
      refine am_s_lor dc6_2.2.1.2 ?_
      refine am_s_lstore_n (ls' := [some (.ref x0), some (.int x1), some (.long ((x2 <<< (Int32.toInt64 7 &&& 63)) ||| (Int32.toInt64 (I (x0 + 1) (Int32.toNatClampNeg x4))))), none, some (.int x4)]) rfl rfl dc6_2.2.2.1 ?_
      refine am_s_iinc (ls' := [some (.ref x0), some (.int x1), some (.long ((x2 <<< (Int32.toInt64 7 &&& 63)) ||| (Int32.toInt64 (I (x0 + 1) (Int32.toNatClampNeg x4))))), none, some (.int (x4 + 1))]) am_cc1 rfl rfl dc6_2.2.2.2 ?_
      refine am_s_goto rfl dc6_3.1 ?_
      exact (vi_f (vi_f q c1) c2).2
-- slotOf (JJJ)I
theorem v7_0 {sc : Option (Nat × (Nat → Int32))} {d k n : Nat} {P : am_O → Prop} {I : am_I} {J : am_J} {Pf : am_R} (hp : am_PF Pf) {x0 : Int64} {l1 : Option Value} {x2 : Int64} {l3 : Option Value} {x4 : Int64} {l5 : Option Value} {l6 : Option Value} {l7 : Option Value} (hl5 : am_k1 l5 = true) (q : (P (.inl (some (.int ((Int64.toInt32 (UInt64.toInt64 (Int64.toUInt64 (((((x0 * 31) + x2) * 31) + x4) * (-7046029254386353131)) >>> (Int64.toUInt64 (Int32.toInt64 40) &&& Int64.toUInt64 63)))) &&& 255))), (am_SH, I, J, Pf), k, n))) : am_go sc d 7 (0, [some (.long x0), l1, some (.long x2), l3, some (.long x4), l5, l6, l7], [], (am_SH, I, J, Pf), k, n) P := by
  refine am_s_lload_n rfl dc7_0.1.1.1 ?_
  refine am_s_ldc2 (x := 31) dc7_0.1.1.2 rfl rfl ?_
  refine am_s_lmul dc7_0.1.2.1 ?_
  refine am_s_lload_n rfl dc7_0.1.2.2 ?_
  refine am_s_ladd dc7_0.2.1.1 ?_
  refine am_s_ldc2 (x := 31) dc7_0.2.1.2 rfl rfl ?_
  refine am_s_lmul dc7_0.2.2.1 ?_
  refine am_s_lload rfl dc7_0.2.2.2 ?_
  refine am_s_ladd dc7_1.1.1.1 ?_
  refine am_s_ldc2 (x := (-7046029254386353131)) dc7_1.1.1.2 rfl rfl ?_
  refine am_s_lmul dc7_1.1.2.1 ?_
  refine am_s_lstore (ls' := [some (.long x0), l1, some (.long x2), l3, some (.long x4), l5, some (.long (((((x0 * 31) + x2) * 31) + x4) * (-7046029254386353131))), none]) rfl (am_set2_k (am_kill_x (j := 5) rfl hl5) rfl) dc7_1.1.2.2 ?_
  refine am_s_lload rfl dc7_1.2.1.1 ?_
  refine am_s_bipush am_cb40 dc7_1.2.1.2 ?_
  refine am_s_lushr dc7_1.2.2.1 ?_
  refine am_s_l2i dc7_1.2.2.2 ?_
  refine am_s_sipush am_cs255 dc7_2.1 ?_
  refine am_s_iand dc7_2.2.1 ?_
  exact am_s_ireturn dc7_2.2.2 rfl (q)
-- keep (JJJI)V
theorem v8_0 {sc : Option (Nat × (Nat → Int32))} {d k n : Nat} {P : am_O → Prop} {I : am_I} {J : am_J} {Pf : am_R} (hp : am_PF Pf) {x1 : Int64} {l2 : Option Value} {x3 : Int64} {l4 : Option Value} {x5 : Int64} {l6 : Option Value} {x7 : Int32} {l8 : Option Value} {l9 : Option Value} (q : (if (I 112 9) < 192 then (am_go sc d 8 (23, [some (.ref 112), some (.long x1), l2, some (.long x3), l4, some (.long x5), l6, some (.int x7), l8, l9], [], (am_SH, I, J, Pf), k, n) P) else (am_mth d 341 [.ref 119, .int (-1)] (am_SH, I, J, Pf) (am_af sc d 8 15 [some (.ref 112), some (.long x1), l2, some (.long x3), l4, some (.long x5), l6, some (.int x7), l8, l9] [.int (-1), .ref 119] [] (am_SH, I, J, Pf) k n false P)))) : am_go sc d 8 (0, [some (.ref 112), some (.long x1), l2, some (.long x3), l4, some (.long x5), l6, some (.int x7), l8, l9], [], (am_SH, I, J, Pf), k, n) P := by
  refine am_s_aload_n rfl dc8_0.1.1.1 ?_
  refine am_x_getI (x := I 112 9) dc8_0.1.1.2 rfl rfl (Or.inl rfl) rfl ?_
  refine am_s_sipush am_cs192 dc8_0.1.2.1 ?_
  refine am_s_ic_lt dc8_0.1.2.2 rfl (fun c1 => ?_) (fun c1 => ?_)
  · exact (vi_t q c1)
  · refine am_s_aload_n rfl dc8_0.2.1.1 ?_
    refine am_s_getR (r := 119) dc8_0.2.1.2 rfl rfl rfl (hp _ _ _ rfl) ?_
    refine am_s_iconst am_ccm1 dc8_0.2.2.1 ?_
    exact am_s_static dc8_0.2.2.2 rfl rfl rfl ((vi_f q c1))
theorem v8_23 {sc : Option (Nat × (Nat → Int32))} {d k n : Nat} {P : am_O → Prop} {I : am_I} {J : am_J} {Pf : am_R} (hp : am_PF Pf) {x1 : Int64} {l2 : Option Value} {x3 : Int64} {l4 : Option Value} {x5 : Int64} {l6 : Option Value} {x7 : Int32} {l8 : Option Value} {l9 : Option Value} (q : (am_mth d 7 [.long x1, .long x3, .long x5] (am_SH, I, J, Pf) (am_af sc d 8 27 [some (.ref 112), some (.long x1), l2, some (.long x3), l4, some (.long x5), l6, some (.int x7), l8, l9] [.long x5, .long x3, .long x1] [] (am_SH, I, J, Pf) k n false P))) : am_go sc d 8 (23, [some (.ref 112), some (.long x1), l2, some (.long x3), l4, some (.long x5), l6, some (.int x7), l8, l9], [], (am_SH, I, J, Pf), k, n) P := by
  refine am_s_lload_n rfl dc8_1.1.2.2 ?_
  refine am_s_lload_n rfl dc8_1.2.1.1 ?_
  refine am_s_lload rfl dc8_1.2.1.2 ?_
  exact am_s_static dc8_1.2.2.1 rfl rfl rfl (q)
theorem v8_35 {sc : Option (Nat × (Nat → Int32))} {d k n : Nat} {P : am_O → Prop} {I : am_I} {J : am_J} {Pf : am_R} (hp : am_PF Pf) {x1 : Int64} {l2 : Option Value} {x3 : Int64} {l4 : Option Value} {x5 : Int64} {l6 : Option Value} {x7 : Int32} {x8 : Int32} {x9 : Int32} (q : (if 256 ≤ x9 then (am_go sc d 8 (70, [some (.ref 112), some (.long x1), l2, some (.long x3), l4, some (.long x5), l6, some (.int x7), some (.int x8), some (.int x9)], [], (am_SH, I, J, Pf), k, n) P) else (am_in x8 256 = true) ∧ (if (I 119 (Int32.toNatClampNeg x8)) = (-1) then (am_go sc d 8 (70, [some (.ref 112), some (.long x1), l2, some (.long x3), l4, some (.long x5), l6, some (.int x7), some (.int x8), some (.int x9)], [], (am_SH, I, J, Pf), k, n) P) else (am_go sc d 8 (35, [some (.ref 112), some (.long x1), l2, some (.long x3), l4, some (.long x5), l6, some (.int x7), some (.int ((x8 + 1) &&& 255)), some (.int (x9 + 1))], [], (am_SH, I, J, Pf), k, n) P)))) : am_go sc d 8 (35, [some (.ref 112), some (.long x1), l2, some (.long x3), l4, some (.long x5), l6, some (.int x7), some (.int x8), some (.int x9)], [], (am_SH, I, J, Pf), k, n) P := by
  refine am_s_iload rfl dc8_2.1.2.1 ?_
  refine am_s_sipush am_cs256 dc8_2.1.2.2 ?_
  refine am_s_ic_ge dc8_2.2.1.1 rfl (fun c1 => ?_) (fun c1 => ?_)
  · exact (vi_t q c1)
  · refine am_s_aload_n rfl dc8_2.2.1.2 ?_
    refine am_s_getR (r := 119) dc8_2.2.2.1 rfl rfl rfl (hp _ _ _ rfl) ?_
    refine am_s_iload rfl dc8_2.2.2.2 ?_
    refine am_x_iaload (x := I 119 (Int32.toNatClampNeg x8)) dc8_3.1.1.1 rfl ((vi_f q c1).1) rfl rfl ?_
    refine am_s_iconst am_ccm1 dc8_3.1.1.2 ?_
    refine am_s_ic_eq dc8_3.1.2.1 rfl (fun c2 => ?_) (fun c2 => ?_)
    · exact (vi_t (vi_f q c1).2 c2)
    · refine am_s_iload rfl dc8_3.1.2.2 ?_
      refine am_s_iconst am_cc1 dc8_3.2.1.1 ?_
      refine am_s_iadd dc8_3.2.1.2 ?_
      refine am_s_sipush am_cs255 dc8_3.2.2.1 ?_
      refine am_s_iand dc8_3.2.2.2 ?_
      refine am_s_istore (ls' := [some (.ref 112), some (.long x1), l2, some (.long x3), l4, some (.long x5), l6, some (.int x7), some (.int ((x8 + 1) &&& 255)), some (.int x9)]) rfl rfl dc8_4.1.1.1 ?_
      refine am_s_iinc (ls' := [some (.ref 112), some (.long x1), l2, some (.long x3), l4, some (.long x5), l6, some (.int x7), some (.int ((x8 + 1) &&& 255)), some (.int (x9 + 1))]) am_cc1 rfl rfl dc8_4.1.1.2 ?_
      refine am_s_goto rfl dc8_4.1.2.1 ?_
      exact (vi_f (vi_f q c1).2 c2)
theorem v8_70 {sc : Option (Nat × (Nat → Int32))} {d k n : Nat} {P : am_O → Prop} {I : am_I} {J : am_J} {Pf : am_R} (hp : am_PF Pf) {x1 : Int64} {l2 : Option Value} {x3 : Int64} {l4 : Option Value} {x5 : Int64} {l6 : Option Value} {x7 : Int32} {x8 : Int32} {l9 : Option Value} (q : (am_in (x8 * 3) 768 = true) ∧ (am_in ((x8 * 3) + 1) 768 = true) ∧ (am_in ((x8 * 3) + 2) 768 = true) ∧ (am_in x8 256 = true) ∧ (P (.inl none, (am_SH, am_u (am_u I 119 (Int32.toNatClampNeg x8) x7) 112 9 ((I 112 9) + 1), am_u (am_u (am_u J 118 (Int32.toNatClampNeg (x8 * 3)) x1) 118 (Int32.toNatClampNeg ((x8 * 3) + 1)) x3) 118 (Int32.toNatClampNeg ((x8 * 3) + 2)) x5, Pf), k, n))) : am_go sc d 8 (70, [some (.ref 112), some (.long x1), l2, some (.long x3), l4, some (.long x5), l6, some (.int x7), some (.int x8), l9], [], (am_SH, I, J, Pf), k, n) P := by
  refine am_s_aload_n rfl dc8_4.1.2.2 ?_
  refine am_s_getR (r := 118) dc8_4.2.1.1 rfl rfl rfl (hp _ _ _ rfl) ?_
  refine am_s_iload rfl dc8_4.2.1.2 ?_
  refine am_s_iconst am_cc3 dc8_4.2.2.1 ?_
  refine am_s_imul dc8_4.2.2.2 ?_
  refine am_s_lload_n rfl dc8_5.1.1.1 ?_
  refine am_s_lastore dc8_5.1.1.2 rfl (q.1) rfl ?_
  refine am_s_aload_n rfl dc8_5.1.2.1 ?_
  refine am_s_getR (r := 118) dc8_5.1.2.2 rfl rfl rfl (hp _ _ _ rfl) ?_
  refine am_s_iload rfl dc8_5.2.1.1 ?_
  refine am_s_iconst am_cc3 dc8_5.2.1.2 ?_
  refine am_s_imul dc8_5.2.2.1 ?_
  refine am_s_iconst am_cc1 dc8_5.2.2.2 ?_
  refine am_s_iadd dc8_6.1.1.1 ?_
  refine am_s_lload_n rfl dc8_6.1.1.2 ?_
  refine am_s_lastore dc8_6.1.2.1 rfl (q.2.1) rfl ?_
  refine am_s_aload_n rfl dc8_6.1.2.2 ?_
  refine am_s_getR (r := 118) dc8_6.2.1.1 rfl rfl rfl (hp _ _ _ rfl) ?_
  refine am_s_iload rfl dc8_6.2.1.2 ?_
  refine am_s_iconst am_cc3 dc8_6.2.2.1 ?_
  refine am_s_imul dc8_6.2.2.2 ?_
  refine am_s_iconst am_cc2 dc8_7.1.1.1 ?_
  refine am_s_iadd dc8_7.1.1.2 ?_
  refine am_s_lload rfl dc8_7.1.2.1 ?_
  refine am_s_lastore dc8_7.1.2.2 rfl (q.2.2.1) rfl ?_
  refine am_s_aload_n rfl dc8_7.2.1.1 ?_
  refine am_s_getR (r := 119) dc8_7.2.1.2 rfl rfl rfl (hp _ _ _ rfl) ?_
  refine am_s_iload rfl dc8_7.2.2.1 ?_
  refine am_s_iload rfl dc8_7.2.2.2 ?_
  refine am_s_iastore dc8_8.1.1.1 rfl (q.2.2.2.1) rfl ?_
  refine am_s_aload_n rfl dc8_8.1.1.2 ?_
  refine am_s_dup rfl dc8_8.1.2.1 ?_
  refine am_x_getI (x := I 112 9) dc8_8.1.2.2 rfl rfl (Or.inl rfl) rfl ?_
  refine am_s_iconst am_cc1 dc8_8.2.1.1 ?_
  refine am_s_iadd dc8_8.2.1.2 ?_
  refine am_s_putI dc8_8.2.2.1 rfl rfl rfl rfl ?_
  exact am_s_return dc8_8.2.2.2 rfl (q.2.2.2.2)
theorem v8_18 {sc : Option (Nat × (Nat → Int32))} {d k n : Nat} {P : am_O → Prop} {I : am_I} {J : am_J} {Pf : am_R} (hp : am_PF Pf) {x1 : Int64} {l2 : Option Value} {x3 : Int64} {l4 : Option Value} {x5 : Int64} {l6 : Option Value} {x7 : Int32} {l8 : Option Value} {l9 : Option Value} (q : (am_go sc d 8 (23, [some (.ref 112), some (.long x1), l2, some (.long x3), l4, some (.long x5), l6, some (.int x7), l8, l9], [], (am_SH, am_u I 112 9 0, J, Pf), k, n) P)) : am_go sc d 8 (18, [some (.ref 112), some (.long x1), l2, some (.long x3), l4, some (.long x5), l6, some (.int x7), l8, l9], [], (am_SH, I, J, Pf), k, n) P := by
  refine am_s_aload_n rfl dc8_1.1.1.1 ?_
  refine am_s_iconst am_cc0 dc8_1.1.1.2 ?_
  refine am_s_putI dc8_1.1.2.1 rfl rfl rfl rfl ?_
  exact q
theorem v8_30 {sc : Option (Nat × (Nat → Int32))} {d k n : Nat} {P : am_O → Prop} {I : am_I} {J : am_J} {Pf : am_R} (hp : am_PF Pf) {x1 : Int64} {l2 : Option Value} {x3 : Int64} {l4 : Option Value} {x5 : Int64} {l6 : Option Value} {x7 : Int32} {l8 : Option Value} {l9 : Option Value} {s0 : Int32} (q : (am_go sc d 8 (35, [some (.ref 112), some (.long x1), l2, some (.long x3), l4, some (.long x5), l6, some (.int x7), some (.int s0), some (.int 0)], [], (am_SH, I, J, Pf), k, n) P)) : am_go sc d 8 (30, [some (.ref 112), some (.long x1), l2, some (.long x3), l4, some (.long x5), l6, some (.int x7), l8, l9], [.int s0], (am_SH, I, J, Pf), k, n) P := by
  refine am_s_istore (ls' := [some (.ref 112), some (.long x1), l2, some (.long x3), l4, some (.long x5), l6, some (.int x7), some (.int s0), l9]) rfl rfl dc8_1.2.2.2 ?_
  refine am_s_iconst am_cc0 dc8_2.1.1.1 ?_
  refine am_s_istore (ls' := [some (.ref 112), some (.long x1), l2, some (.long x3), l4, some (.long x5), l6, some (.int x7), some (.int s0), some (.int 0)]) rfl rfl dc8_2.1.1.2 ?_
  exact q
-- findBarred (LPrunedParses$Table;)V
theorem v9_0 {sc : Option (Nat × (Nat → Int32))} {d k n : Nat} {P : am_O → Prop} {I : am_I} {J : am_J} {Pf : am_R} (hp : am_PF Pf) {x1 : Nat} (hx1 : am_SH[x1]? = some (.inl 9)) {l2 : Option Value} {l3 : Option Value} (q : (am_mth d 341 [.ref 114, .int 0] (am_SH, I, J, Pf) (am_af sc d 9 5 [some (.ref 112), some (.ref x1), l2, l3] [.int 0, .ref 114] [] (am_SH, I, J, Pf) k n false P))) : am_go sc d 9 (0, [some (.ref 112), some (.ref x1), l2, l3], [], (am_SH, I, J, Pf), k, n) P := by
  refine am_s_aload_n rfl dc9_0.1.1.1 ?_
  refine am_s_getR (r := 114) dc9_0.1.1.2 rfl rfl rfl (hp _ _ _ rfl) ?_
  refine am_s_iconst am_cc0 dc9_0.1.2.1 ?_
  exact am_s_static dc9_0.1.2.2 rfl rfl rfl (q)
theorem v9_10 {sc : Option (Nat × (Nat → Int32))} {d k n : Nat} {P : am_O → Prop} {I : am_I} {J : am_J} {Pf : am_R} (hp : am_PF Pf) {x1 : Nat} (hx1 : am_SH[x1]? = some (.inl 9)) {x2 : Int32} {l3 : Option Value} (q : ∃ r112_0x1 : Nat, (Pf 112 0 = some r112_0x1) ∧ (am_SH[r112_0x1]? = some (.inl 4)) ∧ (if (I r112_0x1 13) ≤ x2 then (P (.inl none, (am_SH, I, J, Pf), k, n)) else (am_go sc d 9 (23, [some (.ref 112), some (.ref x1), some (.int x2), some (.int 0)], [], (am_SH, I, J, Pf), k, n) P))) : am_go sc d 9 (10, [some (.ref 112), some (.ref x1), some (.int x2), l3], [], (am_SH, I, J, Pf), k, n) P := by
  refine am_s_iload_n rfl dc9_0.2.2.1 ?_
  refine am_s_aload_n rfl dc9_0.2.2.2 ?_
  obtain ⟨r112_0x1, qx1⟩ := q
  refine am_s_getR (r := r112_0x1) dc9_1.1.1.1 rfl rfl rfl (qx1.1) ?_
  refine am_x_getI (x := I r112_0x1 13) dc9_1.1.1.2 rfl (qx1.2.1) (Or.inl rfl) rfl ?_
  refine am_s_ic_ge dc9_1.1.2.1 rfl (fun c1 => ?_) (fun c1 => ?_)
  · exact am_s_return dc9_6.2.2 rfl ((vi_t qx1.2.2 c1))
  · refine am_s_iconst am_cc0 dc9_1.1.2.2 ?_
    refine am_s_istore_n (ls' := [some (.ref 112), some (.ref x1), some (.int x2), some (.int 0)]) rfl rfl dc9_1.2.1.1 ?_
    exact (vi_f qx1.2.2 c1)
theorem v9_23 {sc : Option (Nat × (Nat → Int32))} {d k n : Nat} {P : am_O → Prop} {I : am_I} {J : am_J} {Pf : am_R} (hp : am_PF Pf) {x1 : Nat} (hx1 : am_SH[x1]? = some (.inl 9)) {x2 : Int32} {x3 : Int32} (q : (if (I x1 1) ≤ x3 then (am_go sc d 9 (10, [some (.ref 112), some (.ref x1), some (.int (x2 + 1)), some (.int x3)], [], (am_SH, I, J, Pf), k, n) P) else ∃ r112_0x1 : Nat, (Pf 112 0 = some r112_0x1) ∧ (am_SH[r112_0x1]? = some (.inl 4)) ∧ (am_in x2 8 = true) ∧ (am_in (I (r112_0x1 + 12) (Int32.toNatClampNeg x2)) 8 = true) ∧ ∃ r47x2 : Nat, (Pf (r112_0x1 + 1) (Int32.toNatClampNeg (I (r112_0x1 + 12) (Int32.toNatClampNeg x2))) = some r47x2) ∧ (am_SH[r47x2]? = some (.inl 6)) ∧ (am_in x3 24 = true) ∧ (am_mth d 78 [.ref r47x2, .int (I (x1 + 1) (Int32.toNatClampNeg x3))] (am_SH, I, J, Pf) (am_af sc d 9 54 [some (.ref 112), some (.ref x1), some (.int x2), some (.int x3)] [.int (I (x1 + 1) (Int32.toNatClampNeg x3)), .ref r47x2] [] (am_SH, I, J, Pf) k n false P)))) : am_go sc d 9 (23, [some (.ref 112), some (.ref x1), some (.int x2), some (.int x3)], [], (am_SH, I, J, Pf), k, n) P := by
  refine am_s_iload_n rfl dc9_1.2.1.2 ?_
  refine am_s_aload_n rfl dc9_1.2.2.1 ?_
  refine am_x_getI (x := I x1 1) dc9_1.2.2.2 rfl hx1 (Or.inl rfl) rfl ?_
  refine am_s_ic_ge dc9_2.1.1.1 rfl (fun c1 => ?_) (fun c1 => ?_)
  · refine am_s_iinc (ls' := [some (.ref 112), some (.ref x1), some (.int (x2 + 1)), some (.int x3)]) am_cc1 rfl rfl dc9_6.1 ?_
    refine am_s_goto rfl dc9_6.2.1 ?_
    exact (vi_t q c1)
  · refine am_s_aload_n rfl dc9_2.1.1.2 ?_
    obtain ⟨r112_0x1, qx1⟩ := (vi_f q c1)
    refine am_s_getR (r := r112_0x1) dc9_2.1.2.1 rfl rfl rfl (qx1.1) ?_
    refine am_s_getR (r := r112_0x1 + 1) dc9_2.1.2.2 rfl (qx1.2.1) rfl (am_r4_0 hp (qx1.2.1)) ?_
    refine am_s_aload_n rfl dc9_2.2.1.1 ?_
    refine am_s_getR (r := r112_0x1) dc9_2.2.1.2 rfl rfl rfl (qx1.1) ?_
    refine am_s_getR (r := r112_0x1 + 12) dc9_2.2.2.1 rfl (qx1.2.1) rfl (am_r4_15 hp (qx1.2.1)) ?_
    refine am_s_iload_n rfl dc9_2.2.2.2 ?_
    refine am_x_iaload (x := I (r112_0x1 + 12) (Int32.toNatClampNeg x2)) dc9_3.1.1.1 (am_h4_15 (qx1.2.1)) (qx1.2.2.1) rfl rfl ?_
    obtain ⟨r47x2, qx2⟩ := qx1.2.2.2.2
    refine am_s_aaload (r := r47x2) dc9_3.1.1.2 (am_h4_0 (qx1.2.1)) rfl (qx1.2.2.2.1) (qx2.1) ?_
    refine am_s_aload_n rfl dc9_3.1.2.1 ?_
    refine am_s_getR (r := x1 + 1) dc9_3.1.2.2 rfl hx1 rfl (am_r9_0 hp hx1) ?_
    refine am_s_iload_n rfl dc9_3.2.1.1 ?_
    refine am_x_iaload (x := I (x1 + 1) (Int32.toNatClampNeg x3)) dc9_3.2.1.2 (am_h9_0 hx1) (qx2.2.2.1) rfl rfl ?_
    exact am_s_virtual false dc9_3.2.2.1 rfl (by decide) rfl (qx2.2.1) rfl (qx2.2.2.2)
theorem v9_8 {sc : Option (Nat × (Nat → Int32))} {d k n : Nat} {P : am_O → Prop} {I : am_I} {J : am_J} {Pf : am_R} (hp : am_PF Pf) {x1 : Nat} (hx1 : am_SH[x1]? = some (.inl 9)) {l2 : Option Value} {l3 : Option Value} (q : (am_go sc d 9 (10, [some (.ref 112), some (.ref x1), some (.int 0), l3], [], (am_SH, I, J, Pf), k, n) P)) : am_go sc d 9 (8, [some (.ref 112), some (.ref x1), l2, l3], [], (am_SH, I, J, Pf), k, n) P := by
  refine am_s_iconst am_cc0 dc9_0.2.1.1 ?_
  refine am_s_istore_n (ls' := [some (.ref 112), some (.ref x1), some (.int 0), l3]) rfl rfl dc9_0.2.1.2 ?_
  exact q
theorem v9_57 {sc : Option (Nat × (Nat → Int32))} {d k n : Nat} {P : am_O → Prop} {I : am_I} {J : am_J} {Pf : am_R} (hp : am_PF Pf) {x1 : Nat} (hx1 : am_SH[x1]? = some (.inl 9)) {x2 : Int32} {x3 : Int32} {s0 : Int32} (q : (if s0 = 0 then (am_go sc d 9 (23, [some (.ref 112), some (.ref x1), some (.int x2), some (.int (x3 + 1))], [], (am_SH, I, J, Pf), k, n) P) else ∃ r112_0x1 : Nat, (Pf 112 0 = some r112_0x1) ∧ (am_SH[r112_0x1]? = some (.inl 4)) ∧ (am_in x2 8 = true) ∧ (am_in (I (r112_0x1 + 11) (Int32.toNatClampNeg x2)) 8 = true) ∧ (am_in (I (r112_0x1 + 11) (Int32.toNatClampNeg x2)) 8 = true) ∧ (am_go sc d 9 (23, [some (.ref 112), some (.ref x1), some (.int x2), some (.int (x3 + 1))], [], (am_SH, am_u I 114 (Int32.toNatClampNeg (I (r112_0x1 + 11) (Int32.toNatClampNeg x2))) ((I 114 (Int32.toNatClampNeg (I (r112_0x1 + 11) (Int32.toNatClampNeg x2)))) ||| ((1 : Int32) <<< (x3 &&& 31))), J, Pf), k, n) P))) : am_go sc d 9 (57, [some (.ref 112), some (.ref x1), some (.int x2), some (.int x3)], [.int s0], (am_SH, I, J, Pf), k, n) P := by
  refine am_s_if_eq dc9_3.2.2.2 rfl (fun c1 => ?_) (fun c1 => ?_)
  · refine am_s_iinc (ls' := [some (.ref 112), some (.ref x1), some (.int x2), some (.int (x3 + 1))]) am_cc1 rfl rfl dc9_5.2.2.1 ?_
    refine am_s_goto rfl dc9_5.2.2.2 ?_
    exact (vi_t q c1)
  · refine am_s_aload_n rfl dc9_4.1.1.1 ?_
    refine am_s_getR (r := 114) dc9_4.1.1.2 rfl rfl rfl (hp _ _ _ rfl) ?_
    refine am_s_aload_n rfl dc9_4.1.2.1 ?_
    obtain ⟨r112_0x1, qx1⟩ := (vi_f q c1)
    refine am_s_getR (r := r112_0x1) dc9_4.1.2.2 rfl rfl rfl (qx1.1) ?_
    refine am_s_getR (r := r112_0x1 + 11) dc9_4.2.1.1 rfl (qx1.2.1) rfl (am_r4_14 hp (qx1.2.1)) ?_
    refine am_s_iload_n rfl dc9_4.2.1.2 ?_
    refine am_x_iaload (x := I (r112_0x1 + 11) (Int32.toNatClampNeg x2)) dc9_4.2.2.1 (am_h4_14 (qx1.2.1)) (qx1.2.2.1) rfl rfl ?_
    refine am_s_dup2 rfl rfl dc9_4.2.2.2 ?_
    refine am_x_iaload (x := I 114 (Int32.toNatClampNeg (I (r112_0x1 + 11) (Int32.toNatClampNeg x2)))) dc9_5.1.1.1 rfl (qx1.2.2.2.1) rfl rfl ?_
    refine am_s_iconst am_cc1 dc9_5.1.1.2 ?_
    refine am_s_iload_n rfl dc9_5.1.2.1 ?_
    refine am_s_ishl dc9_5.1.2.2 ?_
    refine am_s_ior dc9_5.2.1.1 ?_
    refine am_s_iastore dc9_5.2.1.2 rfl (qx1.2.2.2.2.1) rfl ?_
    refine am_s_iinc (ls' := [some (.ref 112), some (.ref x1), some (.int x2), some (.int (x3 + 1))]) am_cc1 rfl rfl dc9_5.2.2.1 ?_
    refine am_s_goto rfl dc9_5.2.2.2 ?_
    exact qx1.2.2.2.2.2
-- fillPlace (LPrunedParses$Table;I)V
theorem v10_0 {sc : Option (Nat × (Nat → Int32))} {d k n : Nat} {P : am_O → Prop} {I : am_I} {J : am_J} {Pf : am_R} (hp : am_PF Pf) {x1 : Nat} (hx1 : am_SH[x1]? = some (.inl 9)) {x2 : Int32} {l3 : Option Value} {l4 : Option Value} (q : (am_go sc d 10 (2, [some (.ref 112), some (.ref x1), some (.int x2), some (.int 0), l4], [], (am_SH, I, J, Pf), k, n) P)) : am_go sc d 10 (0, [some (.ref 112), some (.ref x1), some (.int x2), l3, l4], [], (am_SH, I, J, Pf), k, n) P := by
  refine am_s_iconst am_cc0 dc10_0.1.1.1 ?_
  refine am_s_istore_n (ls' := [some (.ref 112), some (.ref x1), some (.int x2), some (.int 0), l4]) rfl rfl dc10_0.1.1.2 ?_
  exact q
theorem v10_2 {sc : Option (Nat × (Nat → Int32))} {d k n : Nat} {P : am_O → Prop} {I : am_I} {J : am_J} {Pf : am_R} (hp : am_PF Pf) {x1 : Nat} (hx1 : am_SH[x1]? = some (.inl 9)) {x2 : Int32} {x3 : Int32} {l4 : Option Value} (q : (if 8 ≤ x3 then (am_go sc d 10 (28, [some (.ref 112), some (.ref x1), some (.int x2), some (.int 0), l4], [], (am_SH, I, J, Pf), k, n) P) else (am_in ((x3 * 25) + x2) 200 = true) ∧ (am_go sc d 10 (2, [some (.ref 112), some (.ref x1), some (.int x2), some (.int (x3 + 1)), l4], [], (am_SH, am_u I (x1 + 3) (Int32.toNatClampNeg ((x3 * 25) + x2)) 0, J, Pf), k, n) P))) : am_go sc d 10 (2, [some (.ref 112), some (.ref x1), some (.int x2), some (.int x3), l4], [], (am_SH, I, J, Pf), k, n) P := by
  refine am_s_iload_n rfl dc10_0.1.2.1 ?_
  refine am_s_bipush am_cb8 dc10_0.1.2.2 ?_
  refine am_s_ic_ge dc10_0.2.1.1 rfl (fun c1 => ?_) (fun c1 => ?_)
  · refine am_s_iconst am_cc0 dc10_2.1.1.1 ?_
    refine am_s_istore_n (ls' := [some (.ref 112), some (.ref x1), some (.int x2), some (.int 0), l4]) rfl rfl dc10_2.1.1.2 ?_
    exact (vi_t q c1)
  · refine am_s_aload_n rfl dc10_0.2.1.2 ?_
    refine am_s_getR (r := x1 + 3) dc10_0.2.2.1 rfl hx1 rfl (am_r9_3 hp hx1) ?_
    refine am_s_iload_n rfl dc10_0.2.2.2 ?_
    refine am_s_bipush am_cb25 dc10_1.1.1.1 ?_
    refine am_s_imul dc10_1.1.1.2 ?_
    refine am_s_iload_n rfl dc10_1.1.2.1 ?_
    refine am_s_iadd dc10_1.1.2.2 ?_
    refine am_s_iconst am_cc0 dc10_1.2.1.1 ?_
    refine am_s_iastore dc10_1.2.1.2 (am_h9_3 hx1) ((vi_f q c1).1) rfl ?_
    refine am_s_iinc (ls' := [some (.ref 112), some (.ref x1), some (.int x2), some (.int (x3 + 1)), l4]) am_cc1 rfl rfl dc10_1.2.2.1 ?_
    refine am_s_goto rfl dc10_1.2.2.2 ?_
    exact (vi_f q c1).2
theorem v10_28 {sc : Option (Nat × (Nat → Int32))} {d k n : Nat} {P : am_O → Prop} {I : am_I} {J : am_J} {Pf : am_R} (hp : am_PF Pf) {x1 : Nat} (hx1 : am_SH[x1]? = some (.inl 9)) {x2 : Int32} {x3 : Int32} {l4 : Option Value} (q : ∃ r112_1x1 : Nat, (Pf 112 1 = some r112_1x1) ∧ (am_SH[r112_1x1]? = some (.inl 7)) ∧ (if (I r112_1x1 4) < x3 then (P (.inl none, (am_SH, I, J, Pf), k, n)) else (am_go sc d 10 (42, [some (.ref 112), some (.ref x1), some (.int x2), some (.int x3), some (.int 0)], [], (am_SH, I, J, Pf), k, n) P))) : am_go sc d 10 (28, [some (.ref 112), some (.ref x1), some (.int x2), some (.int x3), l4], [], (am_SH, I, J, Pf), k, n) P := by
  refine am_s_iload_n rfl dc10_2.1.2.1 ?_
  refine am_s_aload_n rfl dc10_2.1.2.2 ?_
  obtain ⟨r112_1x1, qx1⟩ := q
  refine am_s_getR (r := r112_1x1) dc10_2.2.1.1 rfl rfl rfl (qx1.1) ?_
  refine am_x_getI (x := I r112_1x1 4) dc10_2.2.1.2 rfl (qx1.2.1) (Or.inl rfl) rfl ?_
  refine am_s_ic_gt dc10_2.2.2.1 rfl (fun c1 => ?_) (fun c1 => ?_)
  · exact am_s_return dc10_8.2 rfl ((vi_t qx1.2.2 c1))
  · refine am_s_iconst am_cc0 dc10_2.2.2.2 ?_
    refine am_s_istore (ls' := [some (.ref 112), some (.ref x1), some (.int x2), some (.int x3), some (.int 0)]) rfl rfl dc10_3.1.1.1 ?_
    exact (vi_f qx1.2.2 c1)
theorem v10_42 {sc : Option (Nat × (Nat → Int32))} {d k n : Nat} {P : am_O → Prop} {I : am_I} {J : am_J} {Pf : am_R} (hp : am_PF Pf) {x1 : Nat} (hx1 : am_SH[x1]? = some (.inl 9)) {x2 : Int32} {x3 : Int32} {x4 : Int32} (q : (if 8 ≤ x4 then (am_mth d 12 [.ref 112, .ref x1, .int x2, .int x3] (am_SH, I, J, Pf) (am_af sc d 10 98 [some (.ref 112), some (.ref x1), some (.int x2), some (.int x3), some (.int x4)] [.int x3, .int x2, .ref x1, .ref 112] [] (am_SH, I, J, Pf) k n true P)) else ∃ r112_1x1 : Nat, (Pf 112 1 = some r112_1x1) ∧ (am_SH[r112_1x1]? = some (.inl 7)) ∧ (am_in x4 8 = true) ∧ (if (I (r112_1x1 + 4) (Int32.toNatClampNeg x4)) = x3 then (am_in x4 8 = true) ∧ (am_mth d 11 [.ref 112, .ref x1, .int x4, .int x2] (am_SH, I, J, Pf) (am_af sc d 10 81 [some (.ref 112), some (.ref x1), some (.int x2), some (.int x3), some (.int x4)] [.int x2, .int x4, .ref x1, .ref 112, .int (I 114 (Int32.toNatClampNeg x4)), .int x4, .ref 115] [.int (I 114 (Int32.toNatClampNeg x4)), .int x4, .ref 115] (am_SH, I, J, Pf) k n true P)) else (am_go sc d 10 (42, [some (.ref 112), some (.ref x1), some (.int x2), some (.int x3), some (.int (x4 + 1))], [], (am_SH, I, J, Pf), k, n) P)))) : am_go sc d 10 (42, [some (.ref 112), some (.ref x1), some (.int x2), some (.int x3), some (.int x4)], [], (am_SH, I, J, Pf), k, n) P := by
  refine am_s_iload rfl dc10_3.1.1.2 ?_
  refine am_s_bipush am_cb8 dc10_3.1.2.1 ?_
  refine am_s_ic_ge dc10_3.1.2.2 rfl (fun c1 => ?_) (fun c1 => ?_)
  · refine am_s_aload_n rfl dc10_6.2.1.2 ?_
    refine am_s_aload_n rfl dc10_6.2.2.1 ?_
    refine am_s_iload_n rfl dc10_6.2.2.2 ?_
    refine am_s_iload_n rfl dc10_7.1.1.1 ?_
    exact am_s_virtual true dc10_7.1.1.2 rfl (by decide) rfl rfl rfl ((vi_t q c1))
  · refine am_s_aload_n rfl dc10_3.2.1.1 ?_
    obtain ⟨r112_1x1, qx1⟩ := (vi_f q c1)
    refine am_s_getR (r := r112_1x1) dc10_3.2.1.2 rfl rfl rfl (qx1.1) ?_
    refine am_s_getR (r := r112_1x1 + 4) dc10_3.2.2.1 rfl (qx1.2.1) rfl (am_r7_3 hp (qx1.2.1)) ?_
    refine am_s_iload rfl dc10_3.2.2.2 ?_
    refine am_x_iaload (x := I (r112_1x1 + 4) (Int32.toNatClampNeg x4)) dc10_4.1.1.1 (am_h7_3 (qx1.2.1)) (qx1.2.2.1) rfl rfl ?_
    refine am_s_iload_n rfl dc10_4.1.1.2 ?_
    refine am_s_ic_ne dc10_4.1.2.1 rfl (fun c2 => ?_) (fun c2 => ?_)
    · refine am_s_iinc (ls' := [some (.ref 112), some (.ref x1), some (.int x2), some (.int x3), some (.int (x4 + 1))]) am_cc1 rfl rfl dc10_6.1.2.2 ?_
      refine am_s_goto rfl dc10_6.2.1.1 ?_
      exact (vi_f qx1.2.2.2 c2)
    · refine am_s_aload_n rfl dc10_4.1.2.2 ?_
      refine am_s_getR (r := 115) dc10_4.2.1.1 rfl rfl rfl (hp _ _ _ rfl) ?_
      refine am_s_iload rfl dc10_4.2.1.2 ?_
      refine am_s_aload_n rfl dc10_4.2.2.1 ?_
      refine am_s_getR (r := 114) dc10_4.2.2.2 rfl rfl rfl (hp _ _ _ rfl) ?_
      refine am_s_iload rfl dc10_5.1.1.1 ?_
      refine am_x_iaload (x := I 114 (Int32.toNatClampNeg x4)) dc10_5.1.1.2 rfl ((vi_t qx1.2.2.2 (Decidable.not_not.mp c2)).1) rfl rfl ?_
      refine am_s_aload_n rfl dc10_5.1.2.1 ?_
      refine am_s_aload_n rfl dc10_5.1.2.2 ?_
      refine am_s_iload rfl dc10_5.2.1.1 ?_
      refine am_s_iload_n rfl dc10_5.2.1.2 ?_
      exact am_s_virtual true dc10_5.2.2.1 rfl (by decide) rfl rfl rfl ((vi_t qx1.2.2.2 (Decidable.not_not.mp c2)).2)
theorem v10_84 {sc : Option (Nat × (Nat → Int32))} {d k n : Nat} {P : am_O → Prop} {I : am_I} {J : am_J} {Pf : am_R} (hp : am_PF Pf) {x1 : Nat} (hx1 : am_SH[x1]? = some (.inl 9)) {x2 : Int32} {x3 : Int32} {x4 : Int32} {s1 : Int32} {s2 : Int32} {s3 : Int32} (q : (am_in s1 8 = true) ∧ (am_go sc d 10 (42, [some (.ref 112), some (.ref x1), some (.int x2), some (.int x3), some (.int (x4 + 1))], [], (am_SH, am_u I 115 (Int32.toNatClampNeg s1) ((s2 ||| s3) ^^^ (-1)), J, Pf), k, n) P)) : am_go sc d 10 (84, [some (.ref 112), some (.ref x1), some (.int x2), some (.int x3), some (.int x4)], [.int s3, .int s2, .int s1, .ref 115], (am_SH, I, J, Pf), k, n) P := by
  refine am_s_ior dc10_5.2.2.2 ?_
  refine am_s_iconst am_ccm1 dc10_6.1.1.1 ?_
  refine am_s_ixor dc10_6.1.1.2 ?_
  refine am_s_iastore dc10_6.1.2.1 rfl (q.1) rfl ?_
  refine am_s_iinc (ls' := [some (.ref 112), some (.ref x1), some (.int x2), some (.int x3), some (.int (x4 + 1))]) am_cc1 rfl rfl dc10_6.1.2.2 ?_
  refine am_s_goto rfl dc10_6.2.1.1 ?_
  exact q.2
theorem v10_101 {sc : Option (Nat × (Nat → Int32))} {d k n : Nat} {P : am_O → Prop} {I : am_I} {J : am_J} {Pf : am_R} (hp : am_PF Pf) {x1 : Nat} (hx1 : am_SH[x1]? = some (.inl 9)) {x2 : Int32} {x3 : Int32} {l4 : Option Value} (q : (am_mth d 13 [.ref 112, .ref x1, .int x2, .int x3] (am_SH, I, J, Pf) (am_af sc d 10 105 [some (.ref 112), some (.ref x1), some (.int x2), some (.int x3), l4] [.int x3, .int x2, .ref x1, .ref 112] [] (am_SH, I, J, Pf) k n true P))) : am_go sc d 10 (101, [some (.ref 112), some (.ref x1), some (.int x2), some (.int x3), l4], [], (am_SH, I, J, Pf), k, n) P := by
  refine am_s_aload_n rfl dc10_7.1.2.1 ?_
  refine am_s_aload_n rfl dc10_7.1.2.2 ?_
  refine am_s_iload_n rfl dc10_7.2.1.1 ?_
  refine am_s_iload_n rfl dc10_7.2.1.2 ?_
  exact am_s_virtual true dc10_7.2.2.1 rfl (by decide) rfl rfl rfl (q)
theorem v10_108 {sc : Option (Nat × (Nat → Int32))} {d k n : Nat} {P : am_O → Prop} {I : am_I} {J : am_J} {Pf : am_R} (hp : am_PF Pf) {x1 : Nat} (hx1 : am_SH[x1]? = some (.inl 9)) {x2 : Int32} {x3 : Int32} {l4 : Option Value} (q : (am_go sc d 10 (28, [some (.ref 112), some (.ref x1), some (.int x2), some (.int (x3 + 1)), l4], [], (am_SH, I, J, Pf), k, n) P)) : am_go sc d 10 (108, [some (.ref 112), some (.ref x1), some (.int x2), some (.int x3), l4], [], (am_SH, I, J, Pf), k, n) P := by
  refine am_s_iinc (ls' := [some (.ref 112), some (.ref x1), some (.int x2), some (.int (x3 + 1)), l4]) am_cc1 rfl rfl dc10_7.2.2.2 ?_
  refine am_s_goto rfl dc10_8.1 ?_
  exact q
-- dropped (LPrunedParses$Table;II)I
theorem v11_0 {sc : Option (Nat × (Nat → Int32))} {d k n : Nat} {P : am_O → Prop} {I : am_I} {J : am_J} {Pf : am_R} (hp : am_PF Pf) {x1 : Nat} (hx1 : am_SH[x1]? = some (.inl 9)) {x2 : Int32} {x3 : Int32} {l4 : Option Value} {l5 : Option Value} (q : (am_go sc d 11 (6, [some (.ref 112), some (.ref x1), some (.int x2), some (.int x3), some (.int 0), some (.int 0)], [], (am_SH, I, J, Pf), k, n) P)) : am_go sc d 11 (0, [some (.ref 112), some (.ref x1), some (.int x2), some (.int x3), l4, l5], [], (am_SH, I, J, Pf), k, n) P := by
  refine am_s_iconst am_cc0 dc11_0.1.1.1 ?_
  refine am_s_istore (ls' := [some (.ref 112), some (.ref x1), some (.int x2), some (.int x3), some (.int 0), l5]) rfl rfl dc11_0.1.1.2 ?_
  refine am_s_iconst am_cc0 dc11_0.1.2.1 ?_
  refine am_s_istore (ls' := [some (.ref 112), some (.ref x1), some (.int x2), some (.int x3), some (.int 0), some (.int 0)]) rfl rfl dc11_0.1.2.2 ?_
  exact q
theorem v11_6 {sc : Option (Nat × (Nat → Int32))} {d k n : Nat} {P : am_O → Prop} {I : am_I} {J : am_J} {Pf : am_R} (hp : am_PF Pf) {x1 : Nat} (hx1 : am_SH[x1]? = some (.inl 9)) {x2 : Int32} {x3 : Int32} {x4 : Int32} {x5 : Int32} (q : (if 8 ≤ x5 then (P (.inl (some (.int x4)), (am_SH, I, J, Pf), k, n)) else ∃ r112_1x1 : Nat, (Pf 112 1 = some r112_1x1) ∧ (am_SH[r112_1x1]? = some (.inl 7)) ∧ (am_in x2 8 = true) ∧ (if ((UInt32.toInt32 (Int32.toUInt32 (I (r112_1x1 + 2) (Int32.toNatClampNeg x2)) >>> (Int32.toUInt32 x5 &&& Int32.toUInt32 31))) &&& 1) = 0 then (am_go sc d 11 (6, [some (.ref 112), some (.ref x1), some (.int x2), some (.int x3), some (.int x4), some (.int (x5 + 1))], [], (am_SH, I, J, Pf), k, n) P) else (am_in ((x5 * 25) + x3) 200 = true) ∧ (am_go sc d 11 (6, [some (.ref 112), some (.ref x1), some (.int x2), some (.int x3), some (.int (x4 ||| (I (x1 + 3) (Int32.toNatClampNeg ((x5 * 25) + x3))))), some (.int (x5 + 1))], [], (am_SH, I, J, Pf), k, n) P)))) : am_go sc d 11 (6, [some (.ref 112), some (.ref x1), some (.int x2), some (.int x3), some (.int x4), some (.int x5)], [], (am_SH, I, J, Pf), k, n) P := by
  refine am_s_iload rfl dc11_0.2.1.1 ?_
  refine am_s_bipush am_cb8 dc11_0.2.1.2 ?_
  refine am_s_ic_ge dc11_0.2.2.1 rfl (fun c1 => ?_) (fun c1 => ?_)
  · refine am_s_iload rfl dc11_3.2.2.1 ?_
    exact am_s_ireturn dc11_3.2.2.2 rfl ((vi_t q c1))
  · refine am_s_aload_n rfl dc11_0.2.2.2 ?_
    obtain ⟨r112_1x1, qx1⟩ := (vi_f q c1)
    refine am_s_getR (r := r112_1x1) dc11_1.1.1.1 rfl rfl rfl (qx1.1) ?_
    refine am_s_getR (r := r112_1x1 + 2) dc11_1.1.1.2 rfl (qx1.2.1) rfl (am_r7_1 hp (qx1.2.1)) ?_
    refine am_s_iload_n rfl dc11_1.1.2.1 ?_
    refine am_x_iaload (x := I (r112_1x1 + 2) (Int32.toNatClampNeg x2)) dc11_1.1.2.2 (am_h7_1 (qx1.2.1)) (qx1.2.2.1) rfl rfl ?_
    refine am_s_iload rfl dc11_1.2.1.1 ?_
    refine am_s_iushr dc11_1.2.1.2 ?_
    refine am_s_iconst am_cc1 dc11_1.2.2.1 ?_
    refine am_s_iand dc11_1.2.2.2 ?_
    refine am_s_if_eq dc11_2.1.1.1 rfl (fun c2 => ?_) (fun c2 => ?_)
    · refine am_s_iinc (ls' := [some (.ref 112), some (.ref x1), some (.int x2), some (.int x3), some (.int x4), some (.int (x5 + 1))]) am_cc1 rfl rfl dc11_3.2.1.1 ?_
      refine am_s_goto rfl dc11_3.2.1.2 ?_
      exact (vi_t qx1.2.2.2 c2)
    · refine am_s_iload rfl dc11_2.1.1.2 ?_
      refine am_s_aload_n rfl dc11_2.1.2.1 ?_
      refine am_s_getR (r := x1 + 3) dc11_2.1.2.2 rfl hx1 rfl (am_r9_3 hp hx1) ?_
      refine am_s_iload rfl dc11_2.2.1.1 ?_
      refine am_s_bipush am_cb25 dc11_2.2.1.2 ?_
      refine am_s_imul dc11_2.2.2.1 ?_
      refine am_s_iload_n rfl dc11_2.2.2.2 ?_
      refine am_s_iadd dc11_3.1.1.1 ?_
      refine am_x_iaload (x := I (x1 + 3) (Int32.toNatClampNeg ((x5 * 25) + x3))) dc11_3.1.1.2 (am_h9_3 hx1) ((vi_f qx1.2.2.2 c2).1) rfl rfl ?_
      refine am_s_ior dc11_3.1.2.1 ?_
      refine am_s_istore (ls' := [some (.ref 112), some (.ref x1), some (.int x2), some (.int x3), some (.int (x4 ||| (I (x1 + 3) (Int32.toNatClampNeg ((x5 * 25) + x3))))), some (.int x5)]) rfl rfl dc11_3.1.2.2 ?_
      refine am_s_iinc (ls' := [some (.ref 112), some (.ref x1), some (.int x2), some (.int x3), some (.int (x4 ||| (I (x1 + 3) (Int32.toNatClampNeg ((x5 * 25) + x3))))), some (.int (x5 + 1))]) am_cc1 rfl rfl dc11_3.2.1.1 ?_
      refine am_s_goto rfl dc11_3.2.1.2 ?_
      exact (vi_f qx1.2.2.2 c2).2
-- addQuotes (LPrunedParses$Table;II)V
theorem v12_0 {sc : Option (Nat × (Nat → Int32))} {d k n : Nat} {P : am_O → Prop} {I : am_I} {J : am_J} {Pf : am_R} (hp : am_PF Pf) {x1 : Nat} (hx1 : am_SH[x1]? = some (.inl 9)) {x2 : Int32} {x3 : Int32} {l4 : Option Value} {l5 : Option Value} {l6 : Option Value} (q : (am_go sc d 12 (3, [some (.ref 112), some (.ref x1), some (.int x2), some (.int x3), some (.int 0), l5, l6], [], (am_SH, I, J, Pf), k, n) P)) : am_go sc d 12 (0, [some (.ref 112), some (.ref x1), some (.int x2), some (.int x3), l4, l5, l6], [], (am_SH, I, J, Pf), k, n) P := by
  refine am_s_iconst am_cc0 dc12_0.1.1.1 ?_
  refine am_s_istore (ls' := [some (.ref 112), some (.ref x1), some (.int x2), some (.int x3), some (.int 0), l5, l6]) rfl rfl dc12_0.1.1.2 ?_
  exact q
theorem v12_3 {sc : Option (Nat × (Nat → Int32))} {d k n : Nat} {P : am_O → Prop} {I : am_I} {J : am_J} {Pf : am_R} (hp : am_PF Pf) {x1 : Nat} (hx1 : am_SH[x1]? = some (.inl 9)) {x2 : Int32} {x3 : Int32} {x4 : Int32} {l5 : Option Value} {l6 : Option Value} (q : ∃ r112_0x1 : Nat, (Pf 112 0 = some r112_0x1) ∧ (am_SH[r112_0x1]? = some (.inl 4)) ∧ (if (I r112_0x1 9) ≤ x4 then (P (.inl none, (am_SH, I, J, Pf), k, n)) else (am_in x4 4 = true) ∧ (am_in ((x4 * 25) + x2) 100 = true) ∧ ∃ r112_1x2 : Nat, (Pf 112 1 = some r112_1x2) ∧ (am_SH[r112_1x2]? = some (.inl 7)) ∧ (am_in (I (r112_0x1 + 8) (Int32.toNatClampNeg x4)) 8 = true) ∧ (if (I (r112_1x2 + 4) (Int32.toNatClampNeg (I (r112_0x1 + 8) (Int32.toNatClampNeg x4)))) = x3 then (if (I (x1 + 4) (Int32.toNatClampNeg ((x4 * 25) + x2))) = (-1) then (am_go sc d 12 (3, [some (.ref 112), some (.ref x1), some (.int x2), some (.int x3), some (.int (x4 + 1)), some (.int (I (r112_0x1 + 8) (Int32.toNatClampNeg x4))), some (.int (I (x1 + 4) (Int32.toNatClampNeg ((x4 * 25) + x2))))], [], (am_SH, I, J, Pf), k, n) P) else (am_in (((I (r112_0x1 + 8) (Int32.toNatClampNeg x4)) * 25) + x2) 200 = true) ∧ (am_in (I (r112_0x1 + 8) (Int32.toNatClampNeg x4)) 8 = true) ∧ (am_in (((I (r112_0x1 + 8) (Int32.toNatClampNeg x4)) * 25) + x2) 200 = true) ∧ (am_go sc d 12 (3, [some (.ref 112), some (.ref x1), some (.int x2), some (.int x3), some (.int (x4 + 1)), some (.int (I (r112_0x1 + 8) (Int32.toNatClampNeg x4))), some (.int (I (x1 + 4) (Int32.toNatClampNeg ((x4 * 25) + x2))))], [], (am_SH, am_u I (x1 + 3) (Int32.toNatClampNeg (((I (r112_0x1 + 8) (Int32.toNatClampNeg x4)) * 25) + x2)) ((I (x1 + 3) (Int32.toNatClampNeg (((I (r112_0x1 + 8) (Int32.toNatClampNeg x4)) * 25) + x2))) ||| (((1 : Int32) <<< ((I (x1 + 4) (Int32.toNatClampNeg ((x4 * 25) + x2))) &&& 31)) &&& (I 115 (Int32.toNatClampNeg (I (r112_0x1 + 8) (Int32.toNatClampNeg x4)))))), J, Pf), k, n) P)) else (am_go sc d 12 (3, [some (.ref 112), some (.ref x1), some (.int x2), some (.int x3), some (.int (x4 + 1)), some (.int (I (r112_0x1 + 8) (Int32.toNatClampNeg x4))), some (.int (I (x1 + 4) (Int32.toNatClampNeg ((x4 * 25) + x2))))], [], (am_SH, I, J, Pf), k, n) P)))) : am_go sc d 12 (3, [some (.ref 112), some (.ref x1), some (.int x2), some (.int x3), some (.int x4), l5, l6], [], (am_SH, I, J, Pf), k, n) P := by
  refine am_s_iload rfl dc12_0.1.2.1 ?_
  refine am_s_aload_n rfl dc12_0.1.2.2 ?_
  obtain ⟨r112_0x1, qx1⟩ := q
  refine am_s_getR (r := r112_0x1) dc12_0.2.1.1 rfl rfl rfl (qx1.1) ?_
  refine am_x_getI (x := I r112_0x1 9) dc12_0.2.1.2 rfl (qx1.2.1) (Or.inl rfl) rfl ?_
  refine am_s_ic_ge dc12_0.2.2.1 rfl (fun c1 => ?_) (fun c1 => ?_)
  · exact am_s_return dc12_6.2.2.2 rfl ((vi_t qx1.2.2 c1))
  · refine am_s_aload_n rfl dc12_0.2.2.2 ?_
    refine am_s_getR (r := r112_0x1) dc12_1.1.1.1 rfl rfl rfl (qx1.1) ?_
    refine am_s_getR (r := r112_0x1 + 8) dc12_1.1.1.2 rfl (qx1.2.1) rfl (am_r4_10 hp (qx1.2.1)) ?_
    refine am_s_iload rfl dc12_1.1.2.1 ?_
    refine am_x_iaload (x := I (r112_0x1 + 8) (Int32.toNatClampNeg x4)) dc12_1.1.2.2 (am_h4_10 (qx1.2.1)) ((vi_f qx1.2.2 c1).1) rfl rfl ?_
    refine am_s_istore (ls' := [some (.ref 112), some (.ref x1), some (.int x2), some (.int x3), some (.int x4), some (.int (I (r112_0x1 + 8) (Int32.toNatClampNeg x4))), l6]) rfl rfl dc12_1.2.1.1 ?_
    refine am_s_aload_n rfl dc12_1.2.1.2 ?_
    refine am_s_getR (r := x1 + 4) dc12_1.2.2.1 rfl hx1 rfl (am_r9_4 hp hx1) ?_
    refine am_s_iload rfl dc12_1.2.2.2 ?_
    refine am_s_bipush am_cb25 dc12_2.1.1.1 ?_
    refine am_s_imul dc12_2.1.1.2 ?_
    refine am_s_iload_n rfl dc12_2.1.2.1 ?_
    refine am_s_iadd dc12_2.1.2.2 ?_
    refine am_x_iaload (x := I (x1 + 4) (Int32.toNatClampNeg ((x4 * 25) + x2))) dc12_2.2.1.1 (am_h9_4 hx1) ((vi_f qx1.2.2 c1).2.1) rfl rfl ?_
    refine am_s_istore (ls' := [some (.ref 112), some (.ref x1), some (.int x2), some (.int x3), some (.int x4), some (.int (I (r112_0x1 + 8) (Int32.toNatClampNeg x4))), some (.int (I (x1 + 4) (Int32.toNatClampNeg ((x4 * 25) + x2))))]) rfl rfl dc12_2.2.1.2 ?_
    refine am_s_aload_n rfl dc12_2.2.2.1 ?_
    obtain ⟨r112_1x2, qx2⟩ := (vi_f qx1.2.2 c1).2.2
    refine am_s_getR (r := r112_1x2) dc12_2.2.2.2 rfl rfl rfl (qx2.1) ?_
    refine am_s_getR (r := r112_1x2 + 4) dc12_3.1.1.1 rfl (qx2.2.1) rfl (am_r7_3 hp (qx2.2.1)) ?_
    refine am_s_iload rfl dc12_3.1.1.2 ?_
    refine am_x_iaload (x := I (r112_1x2 + 4) (Int32.toNatClampNeg (I (r112_0x1 + 8) (Int32.toNatClampNeg x4)))) dc12_3.1.2.1 (am_h7_3 (qx2.2.1)) (qx2.2.2.1) rfl rfl ?_
    refine am_s_iload_n rfl dc12_3.1.2.2 ?_
    refine am_s_ic_ne dc12_3.2.1.1 rfl (fun c2 => ?_) (fun c2 => ?_)
    · refine am_s_iinc (ls' := [some (.ref 112), some (.ref x1), some (.int x2), some (.int x3), some (.int (x4 + 1)), some (.int (I (r112_0x1 + 8) (Int32.toNatClampNeg x4))), some (.int (I (x1 + 4) (Int32.toNatClampNeg ((x4 * 25) + x2))))]) am_cc1 rfl rfl dc12_6.2.1 ?_
      refine am_s_goto rfl dc12_6.2.2.1 ?_
      exact (vi_f qx2.2.2.2 c2)
    · refine am_s_iload rfl dc12_3.2.1.2 ?_
      refine am_s_iconst am_ccm1 dc12_3.2.2.1 ?_
      refine am_s_ic_eq dc12_3.2.2.2 rfl (fun c3 => ?_) (fun c3 => ?_)
      · refine am_s_iinc (ls' := [some (.ref 112), some (.ref x1), some (.int x2), some (.int x3), some (.int (x4 + 1)), some (.int (I (r112_0x1 + 8) (Int32.toNatClampNeg x4))), some (.int (I (x1 + 4) (Int32.toNatClampNeg ((x4 * 25) + x2))))]) am_cc1 rfl rfl dc12_6.2.1 ?_
        refine am_s_goto rfl dc12_6.2.2.1 ?_
        exact (vi_t (vi_t qx2.2.2.2 (Decidable.not_not.mp c2)) c3)
      · refine am_s_aload_n rfl dc12_4.1.1.1 ?_
        refine am_s_getR (r := x1 + 3) dc12_4.1.1.2 rfl hx1 rfl (am_r9_3 hp hx1) ?_
        refine am_s_iload rfl dc12_4.1.2.1 ?_
        refine am_s_bipush am_cb25 dc12_4.1.2.2 ?_
        refine am_s_imul dc12_4.2.1.1 ?_
        refine am_s_iload_n rfl dc12_4.2.1.2 ?_
        refine am_s_iadd dc12_4.2.2.1 ?_
        refine am_s_dup2 rfl rfl dc12_4.2.2.2 ?_
        refine am_x_iaload (x := I (x1 + 3) (Int32.toNatClampNeg (((I (r112_0x1 + 8) (Int32.toNatClampNeg x4)) * 25) + x2))) dc12_5.1.1.1 (am_h9_3 hx1) ((vi_f (vi_t qx2.2.2.2 (Decidable.not_not.mp c2)) c3).1) rfl rfl ?_
        refine am_s_iconst am_cc1 dc12_5.1.1.2 ?_
        refine am_s_iload rfl dc12_5.1.2.1 ?_
        refine am_s_ishl dc12_5.1.2.2 ?_
        refine am_s_aload_n rfl dc12_5.2.1.1 ?_
        refine am_s_getR (r := 115) dc12_5.2.1.2 rfl rfl rfl (hp _ _ _ rfl) ?_
        refine am_s_iload rfl dc12_5.2.2.1 ?_
        refine am_x_iaload (x := I 115 (Int32.toNatClampNeg (I (r112_0x1 + 8) (Int32.toNatClampNeg x4)))) dc12_5.2.2.2 rfl ((vi_f (vi_t qx2.2.2.2 (Decidable.not_not.mp c2)) c3).2.1) rfl rfl ?_
        refine am_s_iand dc12_6.1.1 ?_
        refine am_s_ior dc12_6.1.2.1 ?_
        refine am_s_iastore dc12_6.1.2.2 (am_h9_3 hx1) ((vi_f (vi_t qx2.2.2.2 (Decidable.not_not.mp c2)) c3).2.2.1) rfl ?_
        refine am_s_iinc (ls' := [some (.ref 112), some (.ref x1), some (.int x2), some (.int x3), some (.int (x4 + 1)), some (.int (I (r112_0x1 + 8) (Int32.toNatClampNeg x4))), some (.int (I (x1 + 4) (Int32.toNatClampNeg ((x4 * 25) + x2))))]) am_cc1 rfl rfl dc12_6.2.1 ?_
        refine am_s_goto rfl dc12_6.2.2.1 ?_
        exact (vi_f (vi_t qx2.2.2.2 (Decidable.not_not.mp c2)) c3).2.2.2
-- addProductions (LPrunedParses$Table;II)V
theorem v13_0 {sc : Option (Nat × (Nat → Int32))} {d k n : Nat} {P : am_O → Prop} {I : am_I} {J : am_J} {Pf : am_R} (hp : am_PF Pf) {x1 : Nat} (hx1 : am_SH[x1]? = some (.inl 9)) {x2 : Int32} {x3 : Int32} {l4 : Option Value} {l5 : Option Value} {l6 : Option Value} {l7 : Option Value} {l8 : Option Value} {l9 : Option Value} (q : (am_go sc d 13 (6, [some (.ref 112), some (.ref x1), some (.int x2), some (.int x3), some (.int 1), some (.int 0), l6, l7, l8, l9], [], (am_SH, I, J, Pf), k, n) P)) : am_go sc d 13 (0, [some (.ref 112), some (.ref x1), some (.int x2), some (.int x3), l4, l5, l6, l7, l8, l9], [], (am_SH, I, J, Pf), k, n) P := by
  refine am_s_iconst am_cc1 dc13_0.1.1.1 ?_
  refine am_s_istore (ls' := [some (.ref 112), some (.ref x1), some (.int x2), some (.int x3), some (.int 1), l5, l6, l7, l8, l9]) rfl rfl dc13_0.1.1.2 ?_
  refine am_s_iconst am_cc0 dc13_0.1.2.1 ?_
  refine am_s_istore (ls' := [some (.ref 112), some (.ref x1), some (.int x2), some (.int x3), some (.int 1), some (.int 0), l6, l7, l8, l9]) rfl rfl dc13_0.1.2.2 ?_
  exact q
theorem v13_6 {sc : Option (Nat × (Nat → Int32))} {d k n : Nat} {P : am_O → Prop} {I : am_I} {J : am_J} {Pf : am_R} (hp : am_PF Pf) {x1 : Nat} (hx1 : am_SH[x1]? = some (.inl 9)) {x2 : Int32} {x3 : Int32} {x4 : Int32} {x5 : Int32} {l6 : Option Value} {l7 : Option Value} {l8 : Option Value} {l9 : Option Value} (q : (if 200 < x5 then (P (.inl none, (am_SH, I, J, Pf), k, n)) else (if x4 = 0 then (P (.inl none, (am_SH, I, J, Pf), k, n)) else (am_go sc d 13 (25, [some (.ref 112), some (.ref x1), some (.int x2), some (.int x3), some (.int 0), some (.int x5), some (.int 0), l7, l8, l9], [], (am_SH, I, J, Pf), k, n) P)))) : am_go sc d 13 (6, [some (.ref 112), some (.ref x1), some (.int x2), some (.int x3), some (.int x4), some (.int x5), l6, l7, l8, l9], [], (am_SH, I, J, Pf), k, n) P := by
  refine am_s_iload rfl dc13_0.2.1.1 ?_
  refine am_s_sipush am_cs200 dc13_0.2.1.2 ?_
  refine am_s_ic_gt dc13_0.2.2.1 rfl (fun c1 => ?_) (fun c1 => ?_)
  · exact am_s_return dc13_10 rfl ((vi_t q c1))
  · refine am_s_iload rfl dc13_0.2.2.2 ?_
    refine am_s_if_eq dc13_1.1.1.1 rfl (fun c2 => ?_) (fun c2 => ?_)
    · exact am_s_return dc13_10 rfl ((vi_t (vi_f q c1) c2))
    · refine am_s_iconst am_cc0 dc13_1.1.1.2 ?_
      refine am_s_istore (ls' := [some (.ref 112), some (.ref x1), some (.int x2), some (.int x3), some (.int 0), some (.int x5), l6, l7, l8, l9]) rfl rfl dc13_1.1.2.1 ?_
      refine am_s_iconst am_cc0 dc13_1.1.2.2 ?_
      refine am_s_istore (ls' := [some (.ref 112), some (.ref x1), some (.int x2), some (.int x3), some (.int 0), some (.int x5), some (.int 0), l7, l8, l9]) rfl rfl dc13_1.2.1.1 ?_
      exact (vi_f (vi_f q c1) c2)
theorem v13_25 {sc : Option (Nat × (Nat → Int32))} {d k n : Nat} {P : am_O → Prop} {I : am_I} {J : am_J} {Pf : am_R} (hp : am_PF Pf) {x1 : Nat} (hx1 : am_SH[x1]? = some (.inl 9)) {x2 : Int32} {x3 : Int32} {x4 : Int32} {x5 : Int32} {x6 : Int32} {l7 : Option Value} {l8 : Option Value} {l9 : Option Value} (q : ∃ r112_0x1 : Nat, (Pf 112 0 = some r112_0x1) ∧ (am_SH[r112_0x1]? = some (.inl 4)) ∧ (if (I r112_0x1 2) ≤ x6 then (am_go sc (d + 1) 13 (6, [some (.ref 112), some (.ref x1), some (.int x2), some (.int x3), some (.int x4), some (.int (x5 + 1)), some (.int x6), l7, l8, l9], [], (am_SH, I, J, Pf), k, n) P) else (am_in x6 20 = true) ∧ ∃ r112_1x2 : Nat, (Pf 112 1 = some r112_1x2) ∧ (am_SH[r112_1x2]? = some (.inl 7)) ∧ (am_in (I (r112_0x1 + 2) (Int32.toNatClampNeg x6)) 8 = true) ∧ (if (I (r112_1x2 + 4) (Int32.toNatClampNeg (I (r112_0x1 + 2) (Int32.toNatClampNeg x6)))) = x3 then (if x5 ≤ 0 then (am_go sc (d + 1) 13 (80, [some (.ref 112), some (.ref x1), some (.int x2), some (.int x3), some (.int x4), some (.int x5), some (.int x6), some (.int (I (r112_0x1 + 2) (Int32.toNatClampNeg x6))), l8, l9], [], (am_SH, I, J, Pf), k, n) P) else (am_in x6 20 = true) ∧ (if (I (r112_0x1 + 4) (Int32.toNatClampNeg x6)) ≤ 0 then (am_go sc (d + 1) 13 (25, [some (.ref 112), some (.ref x1), some (.int x2), some (.int x3), some (.int x4), some (.int x5), some (.int (x6 + 1)), some (.int (I (r112_0x1 + 2) (Int32.toNatClampNeg x6))), l8, l9], [], (am_SH, I, J, Pf), k, n) P) else (am_in (x6 * 4) 80 = true) ∧ (if (I (r112_0x1 + 5) (Int32.toNatClampNeg (x6 * 4))) = 1 then (am_go sc (d + 1) 13 (80, [some (.ref 112), some (.ref x1), some (.int x2), some (.int x3), some (.int x4), some (.int x5), some (.int x6), some (.int (I (r112_0x1 + 2) (Int32.toNatClampNeg x6))), l8, l9], [], (am_SH, I, J, Pf), k, n) P) else (am_go sc (d + 1) 13 (25, [some (.ref 112), some (.ref x1), some (.int x2), some (.int x3), some (.int x4), some (.int x5), some (.int (x6 + 1)), some (.int (I (r112_0x1 + 2) (Int32.toNatClampNeg x6))), l8, l9], [], (am_SH, I, J, Pf), k, n) P)))) else (am_go sc (d + 1) 13 (25, [some (.ref 112), some (.ref x1), some (.int x2), some (.int x3), some (.int x4), some (.int x5), some (.int (x6 + 1)), some (.int (I (r112_0x1 + 2) (Int32.toNatClampNeg x6))), l8, l9], [], (am_SH, I, J, Pf), k, n) P)))) : am_go sc (d + 1) 13 (25, [some (.ref 112), some (.ref x1), some (.int x2), some (.int x3), some (.int x4), some (.int x5), some (.int x6), l7, l8, l9], [], (am_SH, I, J, Pf), k, n) P := by
  refine am_s_iload rfl dc13_1.2.1.2 ?_
  refine am_s_aload_n rfl dc13_1.2.2.1 ?_
  obtain ⟨r112_0x1, qx1⟩ := q
  refine am_s_getR (r := r112_0x1) dc13_1.2.2.2 rfl rfl rfl (qx1.1) ?_
  refine am_x_getI (x := I r112_0x1 2) dc13_2.1.1.1 rfl (qx1.2.1) (Or.inl rfl) rfl ?_
  refine am_s_ic_ge dc13_2.1.1.2 rfl (fun c1 => ?_) (fun c1 => ?_)
  · refine am_s_iinc (ls' := [some (.ref 112), some (.ref x1), some (.int x2), some (.int x3), some (.int x4), some (.int (x5 + 1)), some (.int x6), l7, l8, l9]) am_cc1 rfl rfl dc13_9.2.2.1 ?_
    refine am_s_goto rfl dc13_9.2.2.2 ?_
    exact (vi_t qx1.2.2 c1)
  · refine am_s_aload_n rfl dc13_2.1.2.1 ?_
    refine am_s_getR (r := r112_0x1) dc13_2.1.2.2 rfl rfl rfl (qx1.1) ?_
    refine am_s_getR (r := r112_0x1 + 2) dc13_2.2.1.1 rfl (qx1.2.1) rfl (am_r4_3 hp (qx1.2.1)) ?_
    refine am_s_iload rfl dc13_2.2.1.2 ?_
    refine am_x_iaload (x := I (r112_0x1 + 2) (Int32.toNatClampNeg x6)) dc13_2.2.2.1 (am_h4_3 (qx1.2.1)) ((vi_f qx1.2.2 c1).1) rfl rfl ?_
    refine am_s_istore (ls' := [some (.ref 112), some (.ref x1), some (.int x2), some (.int x3), some (.int x4), some (.int x5), some (.int x6), some (.int (I (r112_0x1 + 2) (Int32.toNatClampNeg x6))), l8, l9]) rfl rfl dc13_2.2.2.2 ?_
    refine am_s_aload_n rfl dc13_3.1.1.1 ?_
    obtain ⟨r112_1x2, qx2⟩ := (vi_f qx1.2.2 c1).2
    refine am_s_getR (r := r112_1x2) dc13_3.1.1.2 rfl rfl rfl (qx2.1) ?_
    refine am_s_getR (r := r112_1x2 + 4) dc13_3.1.2.1 rfl (qx2.2.1) rfl (am_r7_3 hp (qx2.2.1)) ?_
    refine am_s_iload rfl dc13_3.1.2.2 ?_
    refine am_x_iaload (x := I (r112_1x2 + 4) (Int32.toNatClampNeg (I (r112_0x1 + 2) (Int32.toNatClampNeg x6)))) dc13_3.2.1.1 (am_h7_3 (qx2.2.1)) (qx2.2.2.1) rfl rfl ?_
    refine am_s_iload_n rfl dc13_3.2.1.2 ?_
    refine am_s_ic_ne dc13_3.2.2.1 rfl (fun c2 => ?_) (fun c2 => ?_)
    · refine am_s_iinc (ls' := [some (.ref 112), some (.ref x1), some (.int x2), some (.int x3), some (.int x4), some (.int x5), some (.int (x6 + 1)), some (.int (I (r112_0x1 + 2) (Int32.toNatClampNeg x6))), l8, l9]) am_cc1 rfl rfl dc13_9.2.1.1 ?_
      refine am_s_goto rfl dc13_9.2.1.2 ?_
      exact (vi_f qx2.2.2.2 c2)
    · refine am_s_iload rfl dc13_3.2.2.2 ?_
      refine am_s_if_le dc13_4.1.1.1 rfl (fun c3 => ?_) (fun c3 => ?_)
      · exact (vi_t (vi_t qx2.2.2.2 (Decidable.not_not.mp c2)) c3)
      · refine am_s_aload_n rfl dc13_4.1.1.2 ?_
        refine am_s_iload rfl dc13_4.1.2.1 ?_
        refine am_s_virtual true dc13_4.1.2.2 rfl (by decide) rfl rfl rfl (am_mth_of rfl rfl ?_)
        refine am_s_aload_n rfl dc14_0.1.1.1 ?_
        refine am_s_getR (r := r112_0x1) dc14_0.1.1.2 rfl rfl rfl (qx1.1) ?_
        refine am_s_getR (r := r112_0x1 + 4) dc14_0.1.2.1 rfl (qx1.2.1) rfl (am_r4_5 hp (qx1.2.1)) ?_
        refine am_s_iload_n rfl dc14_0.1.2.2 ?_
        refine am_x_iaload (x := I (r112_0x1 + 4) (Int32.toNatClampNeg x6)) dc14_0.2.1.1 (am_h4_5 (qx1.2.1)) ((vi_f (vi_t qx2.2.2.2 (Decidable.not_not.mp c2)) c3).1) rfl rfl ?_
        refine am_s_if_le dc14_0.2.1.2 rfl (fun c4 => ?_) (fun c4 => ?_)
        · refine am_s_iconst am_cc0 dc14_2.2.1 ?_
          refine am_s_zreturn dc14_2.2.2 rfl (by decide) (am_bkI ?_)
          refine am_s_if_ne dc13_4.2.1.1 rfl (fun z => absurd z (by decide)) (fun _ => ?_)
          refine am_s_goto rfl dc13_4.2.1.2 ?_
          refine am_s_iinc (ls' := [some (.ref 112), some (.ref x1), some (.int x2), some (.int x3), some (.int x4), some (.int x5), some (.int (x6 + 1)), some (.int (I (r112_0x1 + 2) (Int32.toNatClampNeg x6))), l8, l9]) am_cc1 rfl rfl dc13_9.2.1.1 ?_
          refine am_s_goto rfl dc13_9.2.1.2 ?_
          exact (vi_t (vi_f (vi_t qx2.2.2.2 (Decidable.not_not.mp c2)) c3).2 c4)
        · refine am_s_aload_n rfl dc14_0.2.2.1 ?_
          refine am_s_getR (r := r112_0x1) dc14_0.2.2.2 rfl rfl rfl (qx1.1) ?_
          refine am_s_getR (r := r112_0x1 + 5) dc14_1.1.1.1 rfl (qx1.2.1) rfl (am_r4_6 hp (qx1.2.1)) ?_
          refine am_s_iload_n rfl dc14_1.1.1.2 ?_
          refine am_s_iconst am_cc4 dc14_1.1.2.1 ?_
          refine am_s_imul dc14_1.1.2.2 ?_
          refine am_x_iaload (x := I (r112_0x1 + 5) (Int32.toNatClampNeg (x6 * 4))) dc14_1.2.1.1 (am_h4_6 (qx1.2.1)) ((vi_f (vi_f (vi_t qx2.2.2.2 (Decidable.not_not.mp c2)) c3).2 c4).1) rfl rfl ?_
          refine am_s_iconst am_cc1 dc14_1.2.1.2 ?_
          refine am_s_ic_ne dc14_1.2.2.1 rfl (fun c5 => ?_) (fun c5 => ?_)
          · refine am_s_iconst am_cc0 dc14_2.2.1 ?_
            refine am_s_zreturn dc14_2.2.2 rfl (by decide) (am_bkI ?_)
            refine am_s_if_ne dc13_4.2.1.1 rfl (fun z => absurd z (by decide)) (fun _ => ?_)
            refine am_s_goto rfl dc13_4.2.1.2 ?_
            refine am_s_iinc (ls' := [some (.ref 112), some (.ref x1), some (.int x2), some (.int x3), some (.int x4), some (.int x5), some (.int (x6 + 1)), some (.int (I (r112_0x1 + 2) (Int32.toNatClampNeg x6))), l8, l9]) am_cc1 rfl rfl dc13_9.2.1.1 ?_
            refine am_s_goto rfl dc13_9.2.1.2 ?_
            exact (vi_f (vi_f (vi_f (vi_t qx2.2.2.2 (Decidable.not_not.mp c2)) c3).2 c4).2 c5)
          · refine am_s_iconst am_cc1 dc14_1.2.2.2 ?_
            refine am_s_goto rfl dc14_2.1 ?_
            refine am_s_zreturn dc14_2.2.2 rfl (by decide) (am_bkI ?_)
            refine am_s_if_ne dc13_4.2.1.1 rfl (fun _ => ?_) (fun z => absurd z (by decide))
            exact (vi_t (vi_f (vi_f (vi_t qx2.2.2.2 (Decidable.not_not.mp c2)) c3).2 c4).2 (Decidable.not_not.mp c5))
theorem v13_80 {sc : Option (Nat × (Nat → Int32))} {d k n : Nat} {P : am_O → Prop} {I : am_I} {J : am_J} {Pf : am_R} (hp : am_PF Pf) {x1 : Nat} (hx1 : am_SH[x1]? = some (.inl 9)) {x2 : Int32} {x3 : Int32} {x4 : Int32} {x5 : Int32} {x6 : Int32} {x7 : Int32} {l8 : Option Value} {l9 : Option Value} (q : (am_mth d 15 [.ref 112, .ref x1, .int x6, .int x2, .ref (x1 + 3)] (am_SH, I, J, Pf) (am_af sc d 13 98 [some (.ref 112), some (.ref x1), some (.int x2), some (.int x3), some (.int x4), some (.int x5), some (.int x6), some (.int x7), some (.int ((x7 * 25) + x2)), l9] [.ref (x1 + 3), .int x2, .int x6, .ref x1, .ref 112] [] (am_SH, I, J, Pf) k n true P))) : am_go sc d 13 (80, [some (.ref 112), some (.ref x1), some (.int x2), some (.int x3), some (.int x4), some (.int x5), some (.int x6), some (.int x7), l8, l9], [], (am_SH, I, J, Pf), k, n) P := by
  refine am_s_iload rfl dc13_4.2.2.1 ?_
  refine am_s_bipush am_cb25 dc13_4.2.2.2 ?_
  refine am_s_imul dc13_5.1.1.1 ?_
  refine am_s_iload_n rfl dc13_5.1.1.2 ?_
  refine am_s_iadd dc13_5.1.2.1 ?_
  refine am_s_istore (ls' := [some (.ref 112), some (.ref x1), some (.int x2), some (.int x3), some (.int x4), some (.int x5), some (.int x6), some (.int x7), some (.int ((x7 * 25) + x2)), l9]) rfl rfl dc13_5.1.2.2 ?_
  refine am_s_aload_n rfl dc13_5.2.1.1 ?_
  refine am_s_aload_n rfl dc13_5.2.1.2 ?_
  refine am_s_iload rfl dc13_5.2.2.1 ?_
  refine am_s_iload_n rfl dc13_5.2.2.2 ?_
  refine am_s_aload_n rfl dc13_6.1.1.1 ?_
  refine am_s_getR (r := x1 + 3) dc13_6.1.1.2 rfl hx1 rfl (am_r9_3 hp hx1) ?_
  exact am_s_virtual true dc13_6.1.2.1 rfl (by decide) rfl rfl rfl (q)
theorem v13_101 {sc : Option (Nat × (Nat → Int32))} {d k n : Nat} {P : am_O → Prop} {I : am_I} {J : am_J} {Pf : am_R} (hp : am_PF Pf) {x1 : Nat} (hx1 : am_SH[x1]? = some (.inl 9)) {x2 : Int32} {x3 : Int32} {x4 : Int32} {x5 : Int32} {x6 : Int32} {x7 : Int32} {x8 : Int32} {l9 : Option Value} {s0 : Int32} (q : (am_in x7 8 = true) ∧ (am_in x8 200 = true) ∧ (am_in x8 200 = true) ∧ (am_in x8 200 = true) ∧ (if ((s0 &&& (I 115 (Int32.toNatClampNeg x7))) &&& ((I (x1 + 3) (Int32.toNatClampNeg x8)) ^^^ (-1))) = 0 then (am_go sc d 13 (25, [some (.ref 112), some (.ref x1), some (.int x2), some (.int x3), some (.int x4), some (.int x5), some (.int (x6 + 1)), some (.int x7), some (.int x8), some (.int ((s0 &&& (I 115 (Int32.toNatClampNeg x7))) &&& ((I (x1 + 3) (Int32.toNatClampNeg x8)) ^^^ (-1))))], [], (am_SH, am_u I (x1 + 3) (Int32.toNatClampNeg x8) ((I (x1 + 3) (Int32.toNatClampNeg x8)) ||| ((s0 &&& (I 115 (Int32.toNatClampNeg x7))) &&& ((I (x1 + 3) (Int32.toNatClampNeg x8)) ^^^ (-1)))), J, Pf), k, n) P) else (am_go sc d 13 (25, [some (.ref 112), some (.ref x1), some (.int x2), some (.int x3), some (.int 1), some (.int x5), some (.int (x6 + 1)), some (.int x7), some (.int x8), some (.int ((s0 &&& (I 115 (Int32.toNatClampNeg x7))) &&& ((I (x1 + 3) (Int32.toNatClampNeg x8)) ^^^ (-1))))], [], (am_SH, am_u I (x1 + 3) (Int32.toNatClampNeg x8) ((I (x1 + 3) (Int32.toNatClampNeg x8)) ||| ((s0 &&& (I 115 (Int32.toNatClampNeg x7))) &&& ((I (x1 + 3) (Int32.toNatClampNeg x8)) ^^^ (-1)))), J, Pf), k, n) P))) : am_go sc d 13 (101, [some (.ref 112), some (.ref x1), some (.int x2), some (.int x3), some (.int x4), some (.int x5), some (.int x6), some (.int x7), some (.int x8), l9], [.int s0], (am_SH, I, J, Pf), k, n) P := by
  refine am_s_aload_n rfl dc13_6.1.2.2 ?_
  refine am_s_getR (r := 115) dc13_6.2.1.1 rfl rfl rfl (hp _ _ _ rfl) ?_
  refine am_s_iload rfl dc13_6.2.1.2 ?_
  refine am_x_iaload (x := I 115 (Int32.toNatClampNeg x7)) dc13_6.2.2.1 rfl (q.1) rfl rfl ?_
  refine am_s_iand dc13_6.2.2.2 ?_
  refine am_s_aload_n rfl dc13_7.1.1.1 ?_
  refine am_s_getR (r := x1 + 3) dc13_7.1.1.2 rfl hx1 rfl (am_r9_3 hp hx1) ?_
  refine am_s_iload rfl dc13_7.1.2.1 ?_
  refine am_x_iaload (x := I (x1 + 3) (Int32.toNatClampNeg x8)) dc13_7.1.2.2 (am_h9_3 hx1) (q.2.1) rfl rfl ?_
  refine am_s_iconst am_ccm1 dc13_7.2.1.1 ?_
  refine am_s_ixor dc13_7.2.1.2 ?_
  refine am_s_iand dc13_7.2.2.1 ?_
  refine am_s_istore (ls' := [some (.ref 112), some (.ref x1), some (.int x2), some (.int x3), some (.int x4), some (.int x5), some (.int x6), some (.int x7), some (.int x8), some (.int ((s0 &&& (I 115 (Int32.toNatClampNeg x7))) &&& ((I (x1 + 3) (Int32.toNatClampNeg x8)) ^^^ (-1))))]) rfl rfl dc13_7.2.2.2 ?_
  refine am_s_aload_n rfl dc13_8.1.1.1 ?_
  refine am_s_getR (r := x1 + 3) dc13_8.1.1.2 rfl hx1 rfl (am_r9_3 hp hx1) ?_
  refine am_s_iload rfl dc13_8.1.2.1 ?_
  refine am_s_dup2 rfl rfl dc13_8.1.2.2 ?_
  refine am_x_iaload (x := I (x1 + 3) (Int32.toNatClampNeg x8)) dc13_8.2.1.1 (am_h9_3 hx1) (q.2.2.1) rfl rfl ?_
  refine am_s_iload rfl dc13_8.2.1.2 ?_
  refine am_s_ior dc13_8.2.2.1 ?_
  refine am_s_iastore dc13_8.2.2.2 (am_h9_3 hx1) (q.2.2.2.1) rfl ?_
  refine am_s_iload rfl dc13_9.1.1.1 ?_
  refine am_s_if_eq dc13_9.1.1.2 rfl (fun c1 => ?_) (fun c1 => ?_)
  · refine am_s_iinc (ls' := [some (.ref 112), some (.ref x1), some (.int x2), some (.int x3), some (.int x4), some (.int x5), some (.int (x6 + 1)), some (.int x7), some (.int x8), some (.int ((s0 &&& (I 115 (Int32.toNatClampNeg x7))) &&& ((I (x1 + 3) (Int32.toNatClampNeg x8)) ^^^ (-1))))]) am_cc1 rfl rfl dc13_9.2.1.1 ?_
    refine am_s_goto rfl dc13_9.2.1.2 ?_
    exact (vi_t q.2.2.2.2 c1)
  · refine am_s_iconst am_cc1 dc13_9.1.2.1 ?_
    refine am_s_istore (ls' := [some (.ref 112), some (.ref x1), some (.int x2), some (.int x3), some (.int 1), some (.int x5), some (.int x6), some (.int x7), some (.int x8), some (.int ((s0 &&& (I 115 (Int32.toNatClampNeg x7))) &&& ((I (x1 + 3) (Int32.toNatClampNeg x8)) ^^^ (-1))))]) rfl rfl dc13_9.1.2.2 ?_
    refine am_s_iinc (ls' := [some (.ref 112), some (.ref x1), some (.int x2), some (.int x3), some (.int 1), some (.int x5), some (.int (x6 + 1)), some (.int x7), some (.int x8), some (.int ((s0 &&& (I 115 (Int32.toNatClampNeg x7))) &&& ((I (x1 + 3) (Int32.toNatClampNeg x8)) ^^^ (-1))))]) am_cc1 rfl rfl dc13_9.2.1.1 ?_
    refine am_s_goto rfl dc13_9.2.1.2 ?_
    exact (vi_f q.2.2.2.2 c1)
-- leans (I)Z
theorem v14_0 {sc : Option (Nat × (Nat → Int32))} {d k n : Nat} {P : am_O → Prop} {I : am_I} {J : am_J} {Pf : am_R} (hp : am_PF Pf) {x1 : Int32} (q : ∃ r112_0x1 : Nat, (Pf 112 0 = some r112_0x1) ∧ (am_SH[r112_0x1]? = some (.inl 4)) ∧ (am_in x1 20 = true) ∧ (if (I (r112_0x1 + 4) (Int32.toNatClampNeg x1)) ≤ 0 then (P (.inl (some (.int 0)), (am_SH, I, J, Pf), k, n)) else (am_in (x1 * 4) 80 = true) ∧ (if (I (r112_0x1 + 5) (Int32.toNatClampNeg (x1 * 4))) = 1 then (P (.inl (some (.int 1)), (am_SH, I, J, Pf), k, n)) else (P (.inl (some (.int 0)), (am_SH, I, J, Pf), k, n))))) : am_go sc d 14 (0, [some (.ref 112), some (.int x1)], [], (am_SH, I, J, Pf), k, n) P := by
  refine am_s_aload_n rfl dc14_0.1.1.1 ?_
  obtain ⟨r112_0x1, qx1⟩ := q
  refine am_s_getR (r := r112_0x1) dc14_0.1.1.2 rfl rfl rfl (qx1.1) ?_
  refine am_s_getR (r := r112_0x1 + 4) dc14_0.1.2.1 rfl (qx1.2.1) rfl (am_r4_5 hp (qx1.2.1)) ?_
  refine am_s_iload_n rfl dc14_0.1.2.2 ?_
  refine am_x_iaload (x := I (r112_0x1 + 4) (Int32.toNatClampNeg x1)) dc14_0.2.1.1 (am_h4_5 (qx1.2.1)) (qx1.2.2.1) rfl rfl ?_
  refine am_s_if_le dc14_0.2.1.2 rfl (fun c1 => ?_) (fun c1 => ?_)
  · refine am_s_iconst am_cc0 dc14_2.2.1 ?_
    exact am_s_zreturn dc14_2.2.2 rfl (by decide) ((vi_t qx1.2.2.2 c1))
  · refine am_s_aload_n rfl dc14_0.2.2.1 ?_
    refine am_s_getR (r := r112_0x1) dc14_0.2.2.2 rfl rfl rfl (qx1.1) ?_
    refine am_s_getR (r := r112_0x1 + 5) dc14_1.1.1.1 rfl (qx1.2.1) rfl (am_r4_6 hp (qx1.2.1)) ?_
    refine am_s_iload_n rfl dc14_1.1.1.2 ?_
    refine am_s_iconst am_cc4 dc14_1.1.2.1 ?_
    refine am_s_imul dc14_1.1.2.2 ?_
    refine am_x_iaload (x := I (r112_0x1 + 5) (Int32.toNatClampNeg (x1 * 4))) dc14_1.2.1.1 (am_h4_6 (qx1.2.1)) ((vi_f qx1.2.2.2 c1).1) rfl rfl ?_
    refine am_s_iconst am_cc1 dc14_1.2.1.2 ?_
    refine am_s_ic_ne dc14_1.2.2.1 rfl (fun c2 => ?_) (fun c2 => ?_)
    · refine am_s_iconst am_cc0 dc14_2.2.1 ?_
      exact am_s_zreturn dc14_2.2.2 rfl (by decide) ((vi_f (vi_f qx1.2.2.2 c1).2 c2))
    · refine am_s_iconst am_cc1 dc14_1.2.2.2 ?_
      refine am_s_goto rfl dc14_2.1 ?_
      exact am_s_zreturn dc14_2.2.2 rfl (by decide) ((vi_t (vi_f qx1.2.2.2 c1).2 (Decidable.not_not.mp c2)))
-- reach (LPrunedParses$Table;II[I)I
theorem v15_0 {sc : Option (Nat × (Nat → Int32))} {d k n : Nat} {P : am_O → Prop} {I : am_I} {J : am_J} {Pf : am_R} (hp : am_PF Pf) {x1 : Nat} (hx1 : am_SH[x1]? = some (.inl 9)) {x2 : Int32} {x3 : Int32} {x4 : Nat} {Lx4 : Nat} (hx4 : am_SH[x4]? = some (.inr (0, Lx4))) {l5 : Option Value} {l6 : Option Value} {l7 : Option Value} {l8 : Option Value} (q : (am_go sc d 15 (8, [some (.ref 112), some (.ref x1), some (.int x2), some (.int x3), some (.ref x4), some (.int ((1 : Int32) <<< (x3 &&& 31))), some (.int 0), l7, l8], [], (am_SH, I, J, Pf), k, n) P)) : am_go sc d 15 (0, [some (.ref 112), some (.ref x1), some (.int x2), some (.int x3), some (.ref x4), l5, l6, l7, l8], [], (am_SH, I, J, Pf), k, n) P := by
  refine am_s_iconst am_cc1 dc15_0.1.1.1 ?_
  refine am_s_iload_n rfl dc15_0.1.1.2 ?_
  refine am_s_ishl dc15_0.1.2.1 ?_
  refine am_s_istore (ls' := [some (.ref 112), some (.ref x1), some (.int x2), some (.int x3), some (.ref x4), some (.int ((1 : Int32) <<< (x3 &&& 31))), l6, l7, l8]) rfl rfl dc15_0.1.2.2 ?_
  refine am_s_iconst am_cc0 dc15_0.2.1.1 ?_
  refine am_s_istore (ls' := [some (.ref 112), some (.ref x1), some (.int x2), some (.int x3), some (.ref x4), some (.int ((1 : Int32) <<< (x3 &&& 31))), some (.int 0), l7, l8]) rfl rfl dc15_0.2.1.2 ?_
  exact q
theorem v15_8 {sc : Option (Nat × (Nat → Int32))} {d k n : Nat} {P : am_O → Prop} {I : am_I} {J : am_J} {Pf : am_R} (hp : am_PF Pf) {x1 : Nat} (hx1 : am_SH[x1]? = some (.inl 9)) {x2 : Int32} {x3 : Int32} {x4 : Nat} {Lx4 : Nat} (hx4 : am_SH[x4]? = some (.inr (0, Lx4))) {x5 : Int32} {x6 : Int32} {l7 : Option Value} {l8 : Option Value} (q : ∃ r112_0x1 : Nat, (Pf 112 0 = some r112_0x1) ∧ (am_SH[r112_0x1]? = some (.inl 4)) ∧ (am_in x2 20 = true) ∧ (if (I (r112_0x1 + 4) (Int32.toNatClampNeg x2)) ≤ x6 then (P (.inl (some (.int x5)), (am_SH, I, J, Pf), k, n)) else (if x5 = 0 then (P (.inl (some (.int x5)), (am_SH, I, J, Pf), k, n)) else (if x6 ≤ 0 then (am_go sc d 15 (52, [some (.ref 112), some (.ref x1), some (.int x2), some (.int x3), some (.ref x4), some (.int x5), some (.int x6), l7, l8], [], (am_SH, I, J, Pf), k, n) P) else (am_in x2 20 = true) ∧ (if (I (r112_0x1 + 3) (Int32.toNatClampNeg x2)) = 0 then (am_go sc d 15 (52, [some (.ref 112), some (.ref x1), some (.int x2), some (.int x3), some (.ref x4), some (.int x5), some (.int x6), l7, l8], [], (am_SH, I, J, Pf), k, n) P) else (am_mth d 117 [.ref x1, .int x5] (am_SH, I, J, Pf) (am_af sc d 15 47 [some (.ref 112), some (.ref x1), some (.int x2), some (.int x3), some (.ref x4), some (.int x5), some (.int x6), l7, l8] [.int x5, .ref x1] [] (am_SH, I, J, Pf) k n false P))))))) : am_go sc d 15 (8, [some (.ref 112), some (.ref x1), some (.int x2), some (.int x3), some (.ref x4), some (.int x5), some (.int x6), l7, l8], [], (am_SH, I, J, Pf), k, n) P := by
  refine am_s_iload rfl dc15_0.2.2.1 ?_
  refine am_s_aload_n rfl dc15_0.2.2.2 ?_
  obtain ⟨r112_0x1, qx1⟩ := q
  refine am_s_getR (r := r112_0x1) dc15_1.1.1.1 rfl rfl rfl (qx1.1) ?_
  refine am_s_getR (r := r112_0x1 + 4) dc15_1.1.1.2 rfl (qx1.2.1) rfl (am_r4_5 hp (qx1.2.1)) ?_
  refine am_s_iload_n rfl dc15_1.1.2.1 ?_
  refine am_x_iaload (x := I (r112_0x1 + 4) (Int32.toNatClampNeg x2)) dc15_1.1.2.2 (am_h4_5 (qx1.2.1)) (qx1.2.2.1) rfl rfl ?_
  refine am_s_ic_ge dc15_1.2.1.1 rfl (fun c1 => ?_) (fun c1 => ?_)
  · refine am_s_iload rfl dc15_7.2.2.1 ?_
    exact am_s_ireturn dc15_7.2.2.2 rfl ((vi_t qx1.2.2.2 c1))
  · refine am_s_iload rfl dc15_1.2.1.2 ?_
    refine am_s_if_eq dc15_1.2.2.1 rfl (fun c2 => ?_) (fun c2 => ?_)
    · refine am_s_iload rfl dc15_7.2.2.1 ?_
      exact am_s_ireturn dc15_7.2.2.2 rfl ((vi_t (vi_f qx1.2.2.2 c1) c2))
    · refine am_s_iload rfl dc15_1.2.2.2 ?_
      refine am_s_if_le dc15_2.1.1.1 rfl (fun c3 => ?_) (fun c3 => ?_)
      · exact (vi_t (vi_f (vi_f qx1.2.2.2 c1) c2) c3)
      · refine am_s_aload_n rfl dc15_2.1.1.2 ?_
        refine am_s_getR (r := r112_0x1) dc15_2.1.2.1 rfl rfl rfl (qx1.1) ?_
        refine am_s_getR (r := r112_0x1 + 3) dc15_2.1.2.2 rfl (qx1.2.1) rfl (am_r4_4 hp (qx1.2.1)) ?_
        refine am_s_iload_n rfl dc15_2.2.1.1 ?_
        refine am_x_baload (x := I (r112_0x1 + 3) (Int32.toNatClampNeg x2)) dc15_2.2.1.2 (am_h4_4 (qx1.2.1)) ((vi_f (vi_f (vi_f qx1.2.2.2 c1) c2) c3).1) rfl rfl ?_
        refine am_s_if_eq dc15_2.2.2.1 rfl (fun c4 => ?_) (fun c4 => ?_)
        · exact (vi_t (vi_f (vi_f (vi_f qx1.2.2.2 c1) c2) c3).2 c4)
        · refine am_s_aload_n rfl dc15_2.2.2.2 ?_
          refine am_s_iload rfl dc15_3.1.1.1 ?_
          exact am_s_virtual false dc15_3.1.1.2 rfl (by decide) rfl hx1 rfl ((vi_f (vi_f (vi_f (vi_f qx1.2.2.2 c1) c2) c3).2 c4))
theorem v15_52 {sc : Option (Nat × (Nat → Int32))} {d k n : Nat} {P : am_O → Prop} {I : am_I} {J : am_J} {Pf : am_R} (hp : am_PF Pf) {x1 : Nat} (hx1 : am_SH[x1]? = some (.inl 9)) {x2 : Int32} {x3 : Int32} {x4 : Nat} {Lx4 : Nat} (hx4 : am_SH[x4]? = some (.inr (0, Lx4))) {x5 : Int32} {x6 : Int32} {l7 : Option Value} {l8 : Option Value} (q : (am_go sc d 15 (58, [some (.ref 112), some (.ref x1), some (.int x2), some (.int x3), some (.ref x4), some (.int x5), some (.int x6), some (.int 0), some (.int x3)], [], (am_SH, I, J, Pf), k, n) P)) : am_go sc d 15 (52, [some (.ref 112), some (.ref x1), some (.int x2), some (.int x3), some (.ref x4), some (.int x5), some (.int x6), l7, l8], [], (am_SH, I, J, Pf), k, n) P := by
  refine am_s_iconst am_cc0 dc15_3.1.2.2 ?_
  refine am_s_istore (ls' := [some (.ref 112), some (.ref x1), some (.int x2), some (.int x3), some (.ref x4), some (.int x5), some (.int x6), some (.int 0), l8]) rfl rfl dc15_3.2.1.1 ?_
  refine am_s_iload_n rfl dc15_3.2.1.2 ?_
  refine am_s_istore (ls' := [some (.ref 112), some (.ref x1), some (.int x2), some (.int x3), some (.ref x4), some (.int x5), some (.int x6), some (.int 0), some (.int x3)]) rfl rfl dc15_3.2.2.1 ?_
  exact q
theorem v15_58 {sc : Option (Nat × (Nat → Int32))} {d k n : Nat} {P : am_O → Prop} {I : am_I} {J : am_J} {Pf : am_R} (hp : am_PF Pf) {x1 : Nat} (hx1 : am_SH[x1]? = some (.inl 9)) {x2 : Int32} {x3 : Int32} {x4 : Nat} {Lx4 : Nat} (hx4 : am_SH[x4]? = some (.inr (0, Lx4))) {x5 : Int32} {x6 : Int32} {x7 : Int32} {x8 : Int32} (q : (if (I x1 1) < x8 then (am_go sc d 15 (8, [some (.ref 112), some (.ref x1), some (.int x2), some (.int x3), some (.ref x4), some (.int x7), some (.int (x6 + 1)), some (.int x7), some (.int x8)], [], (am_SH, I, J, Pf), k, n) P) else (if ((UInt32.toInt32 (Int32.toUInt32 x5 >>> (Int32.toUInt32 x8 &&& Int32.toUInt32 31))) &&& 1) = 0 then (am_go sc d 15 (58, [some (.ref 112), some (.ref x1), some (.int x2), some (.int x3), some (.ref x4), some (.int x5), some (.int x6), some (.int x7), some (.int (x8 + 1))], [], (am_SH, I, J, Pf), k, n) P) else (am_mth d 16 [.ref 112, .ref x1, .int ((x2 * 4) + x6), .int x8, .ref x4] (am_SH, I, J, Pf) (am_af sc d 15 91 [some (.ref 112), some (.ref x1), some (.int x2), some (.int x3), some (.ref x4), some (.int x5), some (.int x6), some (.int x7), some (.int x8)] [.ref x4, .int x8, .int ((x2 * 4) + x6), .ref x1, .ref 112, .int x7] [.int x7] (am_SH, I, J, Pf) k n true P))))) : am_go sc d 15 (58, [some (.ref 112), some (.ref x1), some (.int x2), some (.int x3), some (.ref x4), some (.int x5), some (.int x6), some (.int x7), some (.int x8)], [], (am_SH, I, J, Pf), k, n) P := by
  refine am_s_iload rfl dc15_3.2.2.2 ?_
  refine am_s_aload_n rfl dc15_4.1.1.1 ?_
  refine am_x_getI (x := I x1 1) dc15_4.1.1.2 rfl hx1 (Or.inl rfl) rfl ?_
  refine am_s_ic_gt dc15_4.1.2.1 rfl (fun c1 => ?_) (fun c1 => ?_)
  · refine am_s_iload rfl dc15_7.1.1 ?_
    refine am_s_istore (ls' := [some (.ref 112), some (.ref x1), some (.int x2), some (.int x3), some (.ref x4), some (.int x7), some (.int x6), some (.int x7), some (.int x8)]) rfl rfl dc15_7.1.2.1 ?_
    refine am_s_iinc (ls' := [some (.ref 112), some (.ref x1), some (.int x2), some (.int x3), some (.ref x4), some (.int x7), some (.int (x6 + 1)), some (.int x7), some (.int x8)]) am_cc1 rfl rfl dc15_7.1.2.2 ?_
    refine am_s_goto rfl dc15_7.2.1 ?_
    exact (vi_t q c1)
  · refine am_s_iload rfl dc15_4.1.2.2 ?_
    refine am_s_iload rfl dc15_4.2.1.1 ?_
    refine am_s_iushr dc15_4.2.1.2 ?_
    refine am_s_iconst am_cc1 dc15_4.2.2.1 ?_
    refine am_s_iand dc15_4.2.2.2 ?_
    refine am_s_if_eq dc15_5.1.1.1 rfl (fun c2 => ?_) (fun c2 => ?_)
    · refine am_s_iinc (ls' := [some (.ref 112), some (.ref x1), some (.int x2), some (.int x3), some (.ref x4), some (.int x5), some (.int x6), some (.int x7), some (.int (x8 + 1))]) am_cc1 rfl rfl dc15_6.2.2.1 ?_
      refine am_s_goto rfl dc15_6.2.2.2 ?_
      exact (vi_t (vi_f q c1) c2)
    · refine am_s_iload rfl dc15_5.1.1.2 ?_
      refine am_s_aload_n rfl dc15_5.1.2.1 ?_
      refine am_s_aload_n rfl dc15_5.1.2.2 ?_
      refine am_s_iload_n rfl dc15_5.2.1.1 ?_
      refine am_s_iconst am_cc4 dc15_5.2.1.2 ?_
      refine am_s_imul dc15_5.2.2.1 ?_
      refine am_s_iload rfl dc15_5.2.2.2 ?_
      refine am_s_iadd dc15_6.1.1.1 ?_
      refine am_s_iload rfl dc15_6.1.1.2 ?_
      refine am_s_aload rfl dc15_6.1.2.1 ?_
      exact am_s_virtual true dc15_6.1.2.2 rfl (by decide) rfl rfl rfl ((vi_f (vi_f q c1) c2))
theorem v15_50 {sc : Option (Nat × (Nat → Int32))} {d k n : Nat} {P : am_O → Prop} {I : am_I} {J : am_J} {Pf : am_R} (hp : am_PF Pf) {x1 : Nat} (hx1 : am_SH[x1]? = some (.inl 9)) {x2 : Int32} {x3 : Int32} {x4 : Nat} {Lx4 : Nat} (hx4 : am_SH[x4]? = some (.inr (0, Lx4))) {l5 : Option Value} {x6 : Int32} {l7 : Option Value} {l8 : Option Value} {s0 : Int32} (q : (am_go sc d 15 (52, [some (.ref 112), some (.ref x1), some (.int x2), some (.int x3), some (.ref x4), some (.int s0), some (.int x6), l7, l8], [], (am_SH, I, J, Pf), k, n) P)) : am_go sc d 15 (50, [some (.ref 112), some (.ref x1), some (.int x2), some (.int x3), some (.ref x4), l5, some (.int x6), l7, l8], [.int s0], (am_SH, I, J, Pf), k, n) P := by
  refine am_s_istore (ls' := [some (.ref 112), some (.ref x1), some (.int x2), some (.int x3), some (.ref x4), some (.int s0), some (.int x6), l7, l8]) rfl rfl dc15_3.1.2.1 ?_
  exact q
theorem v15_94 {sc : Option (Nat × (Nat → Int32))} {d k n : Nat} {P : am_O → Prop} {I : am_I} {J : am_J} {Pf : am_R} (hp : am_PF Pf) {x1 : Nat} (hx1 : am_SH[x1]? = some (.inl 9)) {x2 : Int32} {x3 : Int32} {x4 : Nat} {Lx4 : Nat} (hx4 : am_SH[x4]? = some (.inr (0, Lx4))) {x5 : Int32} {x6 : Int32} {l7 : Option Value} {x8 : Int32} {s0 : Int32} {s1 : Int32} (q : (am_go sc d 15 (58, [some (.ref 112), some (.ref x1), some (.int x2), some (.int x3), some (.ref x4), some (.int x5), some (.int x6), some (.int (s0 ||| s1)), some (.int (x8 + 1))], [], (am_SH, I, J, Pf), k, n) P)) : am_go sc d 15 (94, [some (.ref 112), some (.ref x1), some (.int x2), some (.int x3), some (.ref x4), some (.int x5), some (.int x6), l7, some (.int x8)], [.int s1, .int s0], (am_SH, I, J, Pf), k, n) P := by
  refine am_s_ior dc15_6.2.1.1 ?_
  refine am_s_istore (ls' := [some (.ref 112), some (.ref x1), some (.int x2), some (.int x3), some (.ref x4), some (.int x5), some (.int x6), some (.int (s0 ||| s1)), some (.int x8)]) rfl rfl dc15_6.2.1.2 ?_
  refine am_s_iinc (ls' := [some (.ref 112), some (.ref x1), some (.int x2), some (.int x3), some (.ref x4), some (.int x5), some (.int x6), some (.int (s0 ||| s1)), some (.int (x8 + 1))]) am_cc1 rfl rfl dc15_6.2.2.1 ?_
  refine am_s_goto rfl dc15_6.2.2.2 ?_
  exact q
-- partEnds (LPrunedParses$Table;II[I)I
theorem v16_0 {sc : Option (Nat × (Nat → Int32))} {d k n : Nat} {P : am_O → Prop} {I : am_I} {J : am_J} {Pf : am_R} (hp : am_PF Pf) {x1 : Nat} (hx1 : am_SH[x1]? = some (.inl 9)) {x2 : Int32} {x3 : Int32} {x4 : Nat} {Lx4 : Nat} (hx4 : am_SH[x4]? = some (.inr (0, Lx4))) {l5 : Option Value} {l6 : Option Value} (q : ∃ r112_0x1 : Nat, (Pf 112 0 = some r112_0x1) ∧ (am_SH[r112_0x1]? = some (.inl 4)) ∧ (am_in x2 80 = true) ∧ (am_in x2 80 = true) ∧ (if (I (r112_0x1 + 5) (Int32.toNatClampNeg x2)) = 1 then (am_in (((I (r112_0x1 + 6) (Int32.toNatClampNeg x2)) * 25) + x3) Lx4 = true) ∧ (P (.inl (some (.int (I x4 (Int32.toNatClampNeg (((I (r112_0x1 + 6) (Int32.toNatClampNeg x2)) * 25) + x3))))), (am_SH, I, J, Pf), k, n)) else (am_in x2 80 = true) ∧ (if (I (r112_0x1 + 5) (Int32.toNatClampNeg x2)) = 0 then (if x3 < (I x1 1) then ∃ r112_1x2 : Nat, (Pf 112 1 = some r112_1x2) ∧ (am_SH[r112_1x2]? = some (.inl 7)) ∧ (am_in x3 24 = true) ∧ (am_in (I (x1 + 1) (Int32.toNatClampNeg x3)) 127 = true) ∧ (P (.inl (some (.int (((UInt32.toInt32 (Int32.toUInt32 (I (r112_1x2 + 7) (Int32.toNatClampNeg (I (x1 + 1) (Int32.toNatClampNeg x3)))) >>> (Int32.toUInt32 (I (r112_0x1 + 6) (Int32.toNatClampNeg x2)) &&& Int32.toUInt32 31))) &&& 1) <<< ((x3 + 1) &&& 31)))), (am_SH, I, J, Pf), k, n)) else (P (.inl (some (.int 0)), (am_SH, I, J, Pf), k, n))) else (if (x3 + (I (r112_0x1 + 6) (Int32.toNatClampNeg x2))) ≤ (I x1 1) then (am_go sc d 16 (97, [some (.ref 112), some (.ref x1), some (.int x2), some (.int x3), some (.ref x4), some (.int (I (r112_0x1 + 6) (Int32.toNatClampNeg x2))), some (.int 0)], [], (am_SH, I, J, Pf), k, n) P) else (P (.inl (some (.int 0)), (am_SH, I, J, Pf), k, n)))))) : am_go sc d 16 (0, [some (.ref 112), some (.ref x1), some (.int x2), some (.int x3), some (.ref x4), l5, l6], [], (am_SH, I, J, Pf), k, n) P := by
  refine am_s_aload_n rfl dc16_0.1.1.1 ?_
  obtain ⟨r112_0x1, qx1⟩ := q
  refine am_s_getR (r := r112_0x1) dc16_0.1.1.2 rfl rfl rfl (qx1.1) ?_
  refine am_s_getR (r := r112_0x1 + 6) dc16_0.1.2.1 rfl (qx1.2.1) rfl (am_r4_7 hp (qx1.2.1)) ?_
  refine am_s_iload_n rfl dc16_0.1.2.2 ?_
  refine am_x_iaload (x := I (r112_0x1 + 6) (Int32.toNatClampNeg x2)) dc16_0.2.1.1 (am_h4_7 (qx1.2.1)) (qx1.2.2.1) rfl rfl ?_
  refine am_s_istore (ls' := [some (.ref 112), some (.ref x1), some (.int x2), some (.int x3), some (.ref x4), some (.int (I (r112_0x1 + 6) (Int32.toNatClampNeg x2))), l6]) rfl rfl dc16_0.2.1.2 ?_
  refine am_s_aload_n rfl dc16_0.2.2.1 ?_
  refine am_s_getR (r := r112_0x1) dc16_0.2.2.2 rfl rfl rfl (qx1.1) ?_
  refine am_s_getR (r := r112_0x1 + 5) dc16_1.1.1.1 rfl (qx1.2.1) rfl (am_r4_6 hp (qx1.2.1)) ?_
  refine am_s_iload_n rfl dc16_1.1.1.2 ?_
  refine am_x_iaload (x := I (r112_0x1 + 5) (Int32.toNatClampNeg x2)) dc16_1.1.2.1 (am_h4_6 (qx1.2.1)) (qx1.2.2.2.1) rfl rfl ?_
  refine am_s_iconst am_cc1 dc16_1.1.2.2 ?_
  refine am_s_ic_ne dc16_1.2.1.1 rfl (fun c1 => ?_) (fun c1 => ?_)
  · refine am_s_aload_n rfl dc16_2.2.1.2 ?_
    refine am_s_getR (r := r112_0x1) dc16_2.2.2.1 rfl rfl rfl (qx1.1) ?_
    refine am_s_getR (r := r112_0x1 + 5) dc16_2.2.2.2 rfl (qx1.2.1) rfl (am_r4_6 hp (qx1.2.1)) ?_
    refine am_s_iload_n rfl dc16_3.1.1.1 ?_
    refine am_x_iaload (x := I (r112_0x1 + 5) (Int32.toNatClampNeg x2)) dc16_3.1.1.2 (am_h4_6 (qx1.2.1)) ((vi_f qx1.2.2.2.2 c1).1) rfl rfl ?_
    refine am_s_if_ne dc16_3.1.2.1 rfl (fun c2 => ?_) (fun c2 => ?_)
    · refine am_s_iload_n rfl dc16_6.1.2.1 ?_
      refine am_s_iload rfl dc16_6.1.2.2 ?_
      refine am_s_iadd dc16_6.2.1.1 ?_
      refine am_s_aload_n rfl dc16_6.2.1.2 ?_
      refine am_x_getI (x := I x1 1) dc16_6.2.2.1 rfl hx1 (Or.inl rfl) rfl ?_
      refine am_s_ic_le dc16_6.2.2.2 rfl (fun c3 => ?_) (fun c3 => ?_)
      · refine am_s_iconst am_cc0 dc16_7.1.2.1 ?_
        refine am_s_istore (ls' := [some (.ref 112), some (.ref x1), some (.int x2), some (.int x3), some (.ref x4), some (.int (I (r112_0x1 + 6) (Int32.toNatClampNeg x2))), some (.int 0)]) rfl rfl dc16_7.1.2.2 ?_
        exact (vi_t (vi_f (vi_f qx1.2.2.2.2 c1).2 c2) c3)
      · refine am_s_iconst am_cc0 dc16_7.1.1.1 ?_
        exact am_s_ireturn dc16_7.1.1.2 rfl ((vi_f (vi_f (vi_f qx1.2.2.2.2 c1).2 c2) c3))
    · refine am_s_iload_n rfl dc16_3.1.2.2 ?_
      refine am_s_aload_n rfl dc16_3.2.1.1 ?_
      refine am_x_getI (x := I x1 1) dc16_3.2.1.2 rfl hx1 (Or.inl rfl) rfl ?_
      refine am_s_ic_lt dc16_3.2.2.1 rfl (fun c3 => ?_) (fun c3 => ?_)
      · refine am_s_aload_n rfl dc16_4.1.1.2 ?_
        obtain ⟨r112_1x2, qx2⟩ := (vi_t (vi_t (vi_f qx1.2.2.2.2 c1).2 (Decidable.not_not.mp c2)) c3)
        refine am_s_getR (r := r112_1x2) dc16_4.1.2.1 rfl rfl rfl (qx2.1) ?_
        refine am_s_getR (r := r112_1x2 + 7) dc16_4.1.2.2 rfl (qx2.2.1) rfl (am_r7_8 hp (qx2.2.1)) ?_
        refine am_s_aload_n rfl dc16_4.2.1.1 ?_
        refine am_s_getR (r := x1 + 1) dc16_4.2.1.2 rfl hx1 rfl (am_r9_0 hp hx1) ?_
        refine am_s_iload_n rfl dc16_4.2.2.1 ?_
        refine am_x_iaload (x := I (x1 + 1) (Int32.toNatClampNeg x3)) dc16_4.2.2.2 (am_h9_0 hx1) (qx2.2.2.1) rfl rfl ?_
        refine am_x_iaload (x := I (r112_1x2 + 7) (Int32.toNatClampNeg (I (x1 + 1) (Int32.toNatClampNeg x3)))) dc16_5.1.1.1 (am_h7_8 (qx2.2.1)) (qx2.2.2.2.1) rfl rfl ?_
        refine am_s_iload rfl dc16_5.1.1.2 ?_
        refine am_s_iushr dc16_5.1.2.1 ?_
        refine am_s_iconst am_cc1 dc16_5.1.2.2 ?_
        refine am_s_iand dc16_5.2.1.1 ?_
        refine am_s_iload_n rfl dc16_5.2.1.2 ?_
        refine am_s_iconst am_cc1 dc16_5.2.2.1 ?_
        refine am_s_iadd dc16_5.2.2.2 ?_
        refine am_s_ishl dc16_6.1.1.1 ?_
        exact am_s_ireturn dc16_6.1.1.2 rfl (qx2.2.2.2.2)
      · refine am_s_iconst am_cc0 dc16_3.2.2.2 ?_
        exact am_s_ireturn dc16_4.1.1.1 rfl ((vi_f (vi_t (vi_f qx1.2.2.2.2 c1).2 (Decidable.not_not.mp c2)) c3))
  · refine am_s_aload rfl dc16_1.2.1.2 ?_
    refine am_s_iload rfl dc16_1.2.2.1 ?_
    refine am_s_bipush am_cb25 dc16_1.2.2.2 ?_
    refine am_s_imul dc16_2.1.1.1 ?_
    refine am_s_iload_n rfl dc16_2.1.1.2 ?_
    refine am_s_iadd dc16_2.1.2.1 ?_
    refine am_x_iaload (x := I x4 (Int32.toNatClampNeg (((I (r112_0x1 + 6) (Int32.toNatClampNeg x2)) * 25) + x3))) dc16_2.1.2.2 hx4 ((vi_t qx1.2.2.2.2 (Decidable.not_not.mp c1)).1) rfl rfl ?_
    exact am_s_ireturn dc16_2.2.1.1 rfl ((vi_t qx1.2.2.2.2 (Decidable.not_not.mp c1)).2)
theorem v16_97 {sc : Option (Nat × (Nat → Int32))} {d k n : Nat} {P : am_O → Prop} {I : am_I} {J : am_J} {Pf : am_R} (hp : am_PF Pf) {x1 : Nat} (hx1 : am_SH[x1]? = some (.inl 9)) {x2 : Int32} {x3 : Int32} {l4 : Option Value} {x5 : Int32} {x6 : Int32} (q : (if x5 ≤ x6 then (P (.inl (some (.int ((1 : Int32) <<< ((x3 + x5) &&& 31)))), (am_SH, I, J, Pf), k, n)) else (am_in (x3 + x6) 24 = true) ∧ ∃ r112_0x1 : Nat, (Pf 112 0 = some r112_0x1) ∧ (am_SH[r112_0x1]? = some (.inl 4)) ∧ (am_in ((x2 * 8) + x6) 640 = true) ∧ (if (I (x1 + 1) (Int32.toNatClampNeg (x3 + x6))) = (I (r112_0x1 + 7) (Int32.toNatClampNeg ((x2 * 8) + x6))) then (am_go sc d 16 (97, [some (.ref 112), some (.ref x1), some (.int x2), some (.int x3), l4, some (.int x5), some (.int (x6 + 1))], [], (am_SH, I, J, Pf), k, n) P) else (P (.inl (some (.int 0)), (am_SH, I, J, Pf), k, n))))) : am_go sc d 16 (97, [some (.ref 112), some (.ref x1), some (.int x2), some (.int x3), l4, some (.int x5), some (.int x6)], [], (am_SH, I, J, Pf), k, n) P := by
  refine am_s_iload rfl dc16_7.2.1.1 ?_
  refine am_s_iload rfl dc16_7.2.1.2 ?_
  refine am_s_ic_ge dc16_7.2.2.1 rfl (fun c1 => ?_) (fun c1 => ?_)
  · refine am_s_iconst am_cc1 dc16_10.1.2.2 ?_
    refine am_s_iload_n rfl dc16_10.2.1.1 ?_
    refine am_s_iload rfl dc16_10.2.1.2 ?_
    refine am_s_iadd dc16_10.2.2.1 ?_
    refine am_s_ishl dc16_10.2.2.2 ?_
    exact am_s_ireturn dc16_11 rfl ((vi_t q c1))
  · refine am_s_aload_n rfl dc16_7.2.2.2 ?_
    refine am_s_getR (r := x1 + 1) dc16_8.1.1.1 rfl hx1 rfl (am_r9_0 hp hx1) ?_
    refine am_s_iload_n rfl dc16_8.1.1.2 ?_
    refine am_s_iload rfl dc16_8.1.2.1 ?_
    refine am_s_iadd dc16_8.1.2.2 ?_
    refine am_x_iaload (x := I (x1 + 1) (Int32.toNatClampNeg (x3 + x6))) dc16_8.2.1.1 (am_h9_0 hx1) ((vi_f q c1).1) rfl rfl ?_
    refine am_s_aload_n rfl dc16_8.2.1.2 ?_
    obtain ⟨r112_0x1, qx1⟩ := (vi_f q c1).2
    refine am_s_getR (r := r112_0x1) dc16_8.2.2.1 rfl rfl rfl (qx1.1) ?_
    refine am_s_getR (r := r112_0x1 + 7) dc16_8.2.2.2 rfl (qx1.2.1) rfl (am_r4_8 hp (qx1.2.1)) ?_
    refine am_s_iload_n rfl dc16_9.1.1.1 ?_
    refine am_s_bipush am_cb8 dc16_9.1.1.2 ?_
    refine am_s_imul dc16_9.1.2.1 ?_
    refine am_s_iload rfl dc16_9.1.2.2 ?_
    refine am_s_iadd dc16_9.2.1.1 ?_
    refine am_x_iaload (x := I (r112_0x1 + 7) (Int32.toNatClampNeg ((x2 * 8) + x6))) dc16_9.2.1.2 (am_h4_8 (qx1.2.1)) (qx1.2.2.1) rfl rfl ?_
    refine am_s_ic_eq dc16_9.2.2.1 rfl (fun c2 => ?_) (fun c2 => ?_)
    · refine am_s_iinc (ls' := [some (.ref 112), some (.ref x1), some (.int x2), some (.int x3), l4, some (.int x5), some (.int (x6 + 1))]) am_cc1 rfl rfl dc16_10.1.1.2 ?_
      refine am_s_goto rfl dc16_10.1.2.1 ?_
      exact (vi_t qx1.2.2.2 c2)
    · refine am_s_iconst am_cc0 dc16_9.2.2.2 ?_
      exact am_s_ireturn dc16_10.1.1.1 rfl ((vi_f qx1.2.2.2 c2))
-- fittingSigns (LPrunedParses$Table;LPrunedParses$Table;II)LPrunedParses$Signs;
theorem v17_0 {sc : Option (Nat × (Nat → Int32))} {d k n : Nat} {P : am_O → Prop} {I : am_I} {J : am_J} {Pf : am_R} (hp : am_PF Pf) {x1 : Nat} (hx1 : am_SH[x1]? = some (.inl 9)) {x2 : Nat} (hx2 : am_SH[x2]? = some (.inl 9)) {x3 : Int32} {x4 : Int32} {l5 : Option Value} {l6 : Option Value} (q : (am_mth d 109 [.ref x2, .ref x1] (am_SH, I, J, Pf) (am_af sc d 17 2 [some (.ref 112), some (.ref x1), some (.ref x2), some (.int x3), some (.int x4), l5, l6] [.ref x1, .ref x2] [] (am_SH, I, J, Pf) k n false P))) : am_go sc d 17 (0, [some (.ref 112), some (.ref x1), some (.ref x2), some (.int x3), some (.int x4), l5, l6], [], (am_SH, I, J, Pf), k, n) P := by
  refine am_s_aload_n rfl dc17_0.1.1.1 ?_
  refine am_s_aload_n rfl dc17_0.1.1.2 ?_
  exact am_s_virtual false dc17_0.1.2.1 rfl (by decide) rfl hx2 rfl (q)
theorem v17_16 {sc : Option (Nat × (Nat → Int32))} {d k n : Nat} {P : am_O → Prop} {I : am_I} {J : am_J} {Pf : am_R} (hp : am_PF Pf) {l1 : Option Value} {x2 : Nat} (hx2 : am_SH[x2]? = some (.inl 9)) {x3 : Int32} {x4 : Int32} {x5 : Int32} {l6 : Option Value} (q : (if 126 < x5 then (P (.inl (some (.ref 117)), (am_SH, I, J, Pf), k, n)) else ∃ r112_1x1 : Nat, (Pf 112 1 = some r112_1x1) ∧ (am_SH[r112_1x1]? = some (.inl 7)) ∧ (am_mth d 98 [.ref r112_1x1, .int x5] (am_SH, I, J, Pf) (am_af sc d 17 29 [some (.ref 112), l1, some (.ref x2), some (.int x3), some (.int x4), some (.int x5), l6] [.int x5, .ref r112_1x1] [] (am_SH, I, J, Pf) k n false P)))) : am_go sc d 17 (16, [some (.ref 112), l1, some (.ref x2), some (.int x3), some (.int x4), some (.int x5), l6], [], (am_SH, I, J, Pf), k, n) P := by
  refine am_s_iload rfl dc17_1.1.1.1 ?_
  refine am_s_bipush am_cb126 dc17_1.1.1.2 ?_
  refine am_s_ic_gt dc17_1.1.2.1 rfl (fun c1 => ?_) (fun c1 => ?_)
  · refine am_s_aload_n rfl dc17_7.2.1 ?_
    refine am_s_getR (r := 117) dc17_7.2.2.1 rfl rfl rfl (hp _ _ _ rfl) ?_
    exact am_s_areturn dc17_7.2.2.2 rfl ((vi_t q c1))
  · refine am_s_aload_n rfl dc17_1.1.2.2 ?_
    obtain ⟨r112_1x1, qx1⟩ := (vi_f q c1)
    refine am_s_getR (r := r112_1x1) dc17_1.2.1.1 rfl rfl rfl (qx1.1) ?_
    refine am_s_iload rfl dc17_1.2.1.2 ?_
    exact am_s_virtual false dc17_1.2.2.1 rfl (by decide) rfl (qx1.2.1) rfl (qx1.2.2)
theorem v17_5 {sc : Option (Nat × (Nat → Int32))} {d k n : Nat} {P : am_O → Prop} {I : am_I} {J : am_J} {Pf : am_R} (hp : am_PF Pf) {l1 : Option Value} {x2 : Nat} (hx2 : am_SH[x2]? = some (.inl 9)) {x3 : Int32} {x4 : Int32} {l5 : Option Value} {l6 : Option Value} (q : (am_mth d 75 [.ref 117] (am_SH, I, J, Pf) (am_af sc d 17 9 [some (.ref 112), l1, some (.ref x2), some (.int x3), some (.int x4), l5, l6] [.ref 117] [] (am_SH, I, J, Pf) k n false P))) : am_go sc d 17 (5, [some (.ref 112), l1, some (.ref x2), some (.int x3), some (.int x4), l5, l6], [], (am_SH, I, J, Pf), k, n) P := by
  refine am_s_aload_n rfl dc17_0.1.2.2 ?_
  refine am_s_getR (r := 117) dc17_0.2.1.1 rfl rfl rfl (hp _ _ _ rfl) ?_
  exact am_s_virtual false dc17_0.2.1.2 rfl (by decide) rfl rfl rfl (q)
theorem v17_32 {sc : Option (Nat × (Nat → Int32))} {d k n : Nat} {P : am_O → Prop} {I : am_I} {J : am_J} {Pf : am_R} (hp : am_PF Pf) {l1 : Option Value} {x2 : Nat} (hx2 : am_SH[x2]? = some (.inl 9)) {x3 : Int32} {x4 : Int32} {x5 : Int32} {l6 : Option Value} {s0 : Int32} (q : (if x5 ≤ s0 then (am_in x4 24 = true) ∧ (if x5 = 32 then (am_mth d 2 [.ref 112, .ref x2, .int 0, .int ((am_u I (x2 + 1) (Int32.toNatClampNeg x4) x5) x2 1)] (am_SH, am_u I (x2 + 1) (Int32.toNatClampNeg x4) x5, J, Pf) (am_af sc d 17 93 [some (.ref 112), l1, some (.ref x2), some (.int x3), some (.int x4), some (.int x5), some (.int s0)] [.int ((am_u I (x2 + 1) (Int32.toNatClampNeg x4) x5) x2 1), .int 0, .ref x2, .ref 112] [] (am_SH, am_u I (x2 + 1) (Int32.toNatClampNeg x4) x5, J, Pf) k n true P)) else (am_mth d 2 [.ref 112, .ref x2, .int 0, .int x4] (am_SH, am_u I (x2 + 1) (Int32.toNatClampNeg x4) x5, J, Pf) (am_af sc d 17 93 [some (.ref 112), l1, some (.ref x2), some (.int x3), some (.int x4), some (.int x5), some (.int s0)] [.int x4, .int 0, .ref x2, .ref 112] [] (am_SH, am_u I (x2 + 1) (Int32.toNatClampNeg x4) x5, J, Pf) k n true P))) else (am_mth d 78 [.ref 117, .int s0] (am_SH, I, J, Pf) (am_af sc d 17 47 [some (.ref 112), l1, some (.ref x2), some (.int x3), some (.int x4), some (.int x5), some (.int s0)] [.int s0, .ref 117] [] (am_SH, I, J, Pf) k n false P)))) : am_go sc d 17 (32, [some (.ref 112), l1, some (.ref x2), some (.int x3), some (.int x4), some (.int x5), l6], [.int s0], (am_SH, I, J, Pf), k, n) P := by
  refine am_s_istore (ls' := [some (.ref 112), l1, some (.ref x2), some (.int x3), some (.int x4), some (.int x5), some (.int s0)]) rfl rfl dc17_1.2.2.2 ?_
  refine am_s_iload rfl dc17_2.1.1.1 ?_
  refine am_s_iload rfl dc17_2.1.1.2 ?_
  refine am_s_ic_ge dc17_2.1.2.1 rfl (fun c1 => ?_) (fun c1 => ?_)
  · refine am_s_aload_n rfl dc17_3.2.1.2 ?_
    refine am_s_getR (r := x2 + 1) dc17_3.2.2.1 rfl hx2 rfl (am_r9_0 hp hx2) ?_
    refine am_s_iload rfl dc17_3.2.2.2 ?_
    refine am_s_iload rfl dc17_4.1.1.1 ?_
    refine am_s_iastore dc17_4.1.1.2 (am_h9_0 hx2) ((vi_t q c1).1) rfl ?_
    refine am_s_aload_n rfl dc17_4.1.2.1 ?_
    refine am_s_aload_n rfl dc17_4.1.2.2 ?_
    refine am_s_iconst am_cc0 dc17_4.2.1.1 ?_
    refine am_s_iload rfl dc17_4.2.1.2 ?_
    refine am_s_bipush am_cb32 dc17_4.2.2.1 ?_
    refine am_s_ic_ne dc17_4.2.2.2 rfl (fun c2 => ?_) (fun c2 => ?_)
    · refine am_s_iload rfl dc17_5.1.2.2 ?_
      exact am_s_virtual true dc17_5.2.1.1 rfl (by decide) rfl rfl rfl ((vi_f (vi_t q c1).2 c2))
    · refine am_s_aload_n rfl dc17_5.1.1.1 ?_
      refine am_x_getI (x := (am_u I (x2 + 1) (Int32.toNatClampNeg x4) x5) x2 1) dc17_5.1.1.2 rfl hx2 (Or.inl rfl) rfl ?_
      refine am_s_goto rfl dc17_5.1.2.1 ?_
      exact am_s_virtual true dc17_5.2.1.1 rfl (by decide) rfl rfl rfl ((vi_t (vi_t q c1).2 (Decidable.not_not.mp c2)))
  · refine am_s_aload_n rfl dc17_2.1.2.2 ?_
    refine am_s_getR (r := 117) dc17_2.2.1.1 rfl rfl rfl (hp _ _ _ rfl) ?_
    refine am_s_iload rfl dc17_2.2.1.2 ?_
    exact am_s_virtual false dc17_2.2.2.1 rfl (by decide) rfl rfl rfl ((vi_f q c1))
theorem v17_12 {sc : Option (Nat × (Nat → Int32))} {d k n : Nat} {P : am_O → Prop} {I : am_I} {J : am_J} {Pf : am_R} (hp : am_PF Pf) {l1 : Option Value} {x2 : Nat} (hx2 : am_SH[x2]? = some (.inl 9)) {x3 : Int32} {x4 : Int32} {l5 : Option Value} {l6 : Option Value} (q : (am_go sc d 17 (16, [some (.ref 112), l1, some (.ref x2), some (.int x3), some (.int x4), some (.int 32), l6], [], (am_SH, I, J, Pf), k, n) P)) : am_go sc d 17 (12, [some (.ref 112), l1, some (.ref x2), some (.int x3), some (.int x4), l5, l6], [], (am_SH, I, J, Pf), k, n) P := by
  refine am_s_bipush am_cb32 dc17_0.2.2.1 ?_
  refine am_s_istore (ls' := [some (.ref 112), l1, some (.ref x2), some (.int x3), some (.int x4), some (.int 32), l6]) rfl rfl dc17_0.2.2.2 ?_
  exact q
theorem v17_50 {sc : Option (Nat × (Nat → Int32))} {d k n : Nat} {P : am_O → Prop} {I : am_I} {J : am_J} {Pf : am_R} (hp : am_PF Pf) {l1 : Option Value} {x2 : Nat} (hx2 : am_SH[x2]? = some (.inl 9)) {x3 : Int32} {x4 : Int32} {x5 : Int32} {l6 : Option Value} {s0 : Int32} (q : (if s0 = 0 then (am_go sc d 17 (16, [some (.ref 112), l1, some (.ref x2), some (.int x3), some (.int x4), some (.int (x5 + 1)), l6], [], (am_SH, I, J, Pf), k, n) P) else (am_mth d 77 [.ref 117, .int x5] (am_SH, I, J, Pf) (am_af sc d 17 59 [some (.ref 112), l1, some (.ref x2), some (.int x3), some (.int x4), some (.int x5), l6] [.int x5, .ref 117] [] (am_SH, I, J, Pf) k n false P)))) : am_go sc d 17 (50, [some (.ref 112), l1, some (.ref x2), some (.int x3), some (.int x4), some (.int x5), l6], [.int s0], (am_SH, I, J, Pf), k, n) P := by
  refine am_s_if_eq dc17_2.2.2.2 rfl (fun c1 => ?_) (fun c1 => ?_)
  · refine am_s_iinc (ls' := [some (.ref 112), l1, some (.ref x2), some (.int x3), some (.int x4), some (.int (x5 + 1)), l6]) am_cc1 rfl rfl dc17_7.1.1 ?_
    refine am_s_goto rfl dc17_7.1.2 ?_
    exact (vi_t q c1)
  · refine am_s_aload_n rfl dc17_3.1.1.1 ?_
    refine am_s_getR (r := 117) dc17_3.1.1.2 rfl rfl rfl (hp _ _ _ rfl) ?_
    refine am_s_iload rfl dc17_3.1.2.1 ?_
    exact am_s_virtual false dc17_3.1.2.2 rfl (by decide) rfl rfl rfl ((vi_f q c1))
theorem v17_96 {sc : Option (Nat × (Nat → Int32))} {d k n : Nat} {P : am_O → Prop} {I : am_I} {J : am_J} {Pf : am_R} (hp : am_PF Pf) {l1 : Option Value} {x2 : Nat} (hx2 : am_SH[x2]? = some (.inl 9)) {x3 : Int32} {x4 : Int32} {x5 : Int32} {l6 : Option Value} (q : (am_in ((x3 * 25) + 0) 200 = true) ∧ (if ((UInt32.toInt32 (Int32.toUInt32 (I (x2 + 3) (Int32.toNatClampNeg ((x3 * 25) + 0))) >>> (Int32.toUInt32 (I x2 1) &&& Int32.toUInt32 31))) &&& 1) = 0 then (am_go sc (d + 1) 17 (16, [some (.ref 112), l1, some (.ref x2), some (.int x3), some (.int x4), some (.int (x5 + 1)), l6], [], (am_SH, I, J, Pf), k, n) P) else (am_mth (d + 1) 77 [.ref 117, .int x5] (am_SH, I, J, Pf) (am_af sc (d + 1) 17 115 [some (.ref 112), l1, some (.ref x2), some (.int x3), some (.int x4), some (.int x5), l6] [.int x5, .ref 117] [] (am_SH, I, J, Pf) k n false P)))) : am_go sc (d + 1) 17 (96, [some (.ref 112), l1, some (.ref x2), some (.int x3), some (.int x4), some (.int x5), l6], [], (am_SH, I, J, Pf), k, n) P := by
  refine am_s_aload_n rfl dc17_5.2.1.2 ?_
  refine am_s_iload_n rfl dc17_5.2.2.1 ?_
  refine am_s_iconst am_cc0 dc17_5.2.2.2 ?_
  refine am_s_aload_n rfl dc17_6.1.1.1 ?_
  refine am_x_getI (x := I x2 1) dc17_6.1.1.2 rfl hx2 (Or.inl rfl) rfl ?_
  refine am_s_virtual false dc17_6.1.2.1 rfl (by decide) rfl hx2 rfl (am_mth_of rfl rfl ?_)
  refine am_s_aload_n rfl dc118_0.1.1.1 ?_
  refine am_s_getR (r := x2 + 3) dc118_0.1.1.2 rfl hx2 rfl (am_r9_3 hp hx2) ?_
  refine am_s_iload_n rfl dc118_0.1.2.1 ?_
  refine am_s_bipush am_cb25 dc118_0.1.2.2 ?_
  refine am_s_imul dc118_0.2.1.1 ?_
  refine am_s_iload_n rfl dc118_0.2.1.2 ?_
  refine am_s_iadd dc118_0.2.2.1 ?_
  refine am_x_iaload (x := I (x2 + 3) (Int32.toNatClampNeg ((x3 * 25) + 0))) dc118_0.2.2.2 (am_h9_3 hx2) (q.1) rfl rfl ?_
  refine am_s_iload_n rfl dc118_1.1.1.1 ?_
  refine am_s_iushr dc118_1.1.1.2 ?_
  refine am_s_iconst am_cc1 dc118_1.1.2.1 ?_
  refine am_s_iand dc118_1.1.2.2 ?_
  refine am_s_if_eq dc118_1.2.1.1 rfl (fun c1 => ?_) (fun c1 => ?_)
  · refine am_s_iconst am_cc0 dc118_1.2.2.2 ?_
    refine am_s_zreturn dc118_2 rfl (by decide) (am_bkI ?_)
    refine am_s_if_eq dc17_6.1.2.2 rfl (fun _ => ?_) (fun z => absurd z (by decide))
    refine am_s_iinc (ls' := [some (.ref 112), l1, some (.ref x2), some (.int x3), some (.int x4), some (.int (x5 + 1)), l6]) am_cc1 rfl rfl dc17_7.1.1 ?_
    refine am_s_goto rfl dc17_7.1.2 ?_
    exact (vi_t q.2 c1)
  · refine am_s_iconst am_cc1 dc118_1.2.1.2 ?_
    refine am_s_goto rfl dc118_1.2.2.1 ?_
    refine am_s_zreturn dc118_2 rfl (by decide) (am_bkI ?_)
    refine am_s_if_eq dc17_6.1.2.2 rfl (fun z => absurd z (by decide)) (fun _ => ?_)
    refine am_s_aload_n rfl dc17_6.2.1.1 ?_
    refine am_s_getR (r := 117) dc17_6.2.1.2 rfl rfl rfl (hp _ _ _ rfl) ?_
    refine am_s_iload rfl dc17_6.2.2.1 ?_
    exact am_s_virtual false dc17_6.2.2.2 rfl (by decide) rfl rfl rfl ((vi_f q.2 c1))
theorem v17_62 {sc : Option (Nat × (Nat → Int32))} {d k n : Nat} {P : am_O → Prop} {I : am_I} {J : am_J} {Pf : am_R} (hp : am_PF Pf) {l1 : Option Value} {x2 : Nat} (hx2 : am_SH[x2]? = some (.inl 9)) {x3 : Int32} {x4 : Int32} {x5 : Int32} {l6 : Option Value} (q : (am_go sc d 17 (16, [some (.ref 112), l1, some (.ref x2), some (.int x3), some (.int x4), some (.int (x5 + 1)), l6], [], (am_SH, I, J, Pf), k, n) P)) : am_go sc d 17 (62, [some (.ref 112), l1, some (.ref x2), some (.int x3), some (.int x4), some (.int x5), l6], [], (am_SH, I, J, Pf), k, n) P := by
  refine am_s_goto rfl dc17_3.2.1.1 ?_
  refine am_s_iinc (ls' := [some (.ref 112), l1, some (.ref x2), some (.int x3), some (.int x4), some (.int (x5 + 1)), l6]) am_cc1 rfl rfl dc17_7.1.1 ?_
  refine am_s_goto rfl dc17_7.1.2 ?_
  exact q
theorem v17_118 {sc : Option (Nat × (Nat → Int32))} {d k n : Nat} {P : am_O → Prop} {I : am_I} {J : am_J} {Pf : am_R} (hp : am_PF Pf) {l1 : Option Value} {x2 : Nat} (hx2 : am_SH[x2]? = some (.inl 9)) {x3 : Int32} {x4 : Int32} {x5 : Int32} {l6 : Option Value} (q : (am_go sc d 17 (16, [some (.ref 112), l1, some (.ref x2), some (.int x3), some (.int x4), some (.int (x5 + 1)), l6], [], (am_SH, I, J, Pf), k, n) P)) : am_go sc d 17 (118, [some (.ref 112), l1, some (.ref x2), some (.int x3), some (.int x4), some (.int x5), l6], [], (am_SH, I, J, Pf), k, n) P := by
  refine am_s_iinc (ls' := [some (.ref 112), l1, some (.ref x2), some (.int x3), some (.int x4), some (.int (x5 + 1)), l6]) am_cc1 rfl rfl dc17_7.1.1 ?_
  refine am_s_goto rfl dc17_7.1.2 ?_
  exact q
-- explain (LPrunedParses$Table;I)I
theorem v18_0 {sc : Option (Nat × (Nat → Int32))} {d k n : Nat} {P : am_O → Prop} {I : am_I} {J : am_J} {Pf : am_R} (hp : am_PF Pf) {x1 : Nat} (hx1 : am_SH[x1]? = some (.inl 9)) {x2 : Int32} {l3 : Option Value} {l4 : Option Value} {l5 : Option Value} {l6 : Option Value} (q : (am_in ((x2 * 25) + 0) 200 = true) ∧ (if ((UInt32.toInt32 (Int32.toUInt32 (I (x1 + 3) (Int32.toNatClampNeg ((x2 * 25) + 0))) >>> (Int32.toUInt32 (I x1 1) &&& Int32.toUInt32 31))) &&& 1) = 0 then (am_go sc (d + 1) 18 (23, [some (.ref 112), some (.ref x1), some (.int x2), some (.ref x1), some (.int x2), some (.int 0), l6], [], (am_SH, I, J, Pf), k, n) P) else (P (.inl (some (.int 0)), (am_SH, I, J, Pf), k, n)))) : am_go sc (d + 1) 18 (0, [some (.ref 112), some (.ref x1), some (.int x2), l3, l4, l5, l6], [], (am_SH, I, J, Pf), k, n) P := by
  refine am_s_aload_n rfl dc18_0.1.1.1 ?_
  refine am_s_iload_n rfl dc18_0.1.1.2 ?_
  refine am_s_iconst am_cc0 dc18_0.1.2.1 ?_
  refine am_s_aload_n rfl dc18_0.1.2.2 ?_
  refine am_x_getI (x := I x1 1) dc18_0.2.1.1 rfl hx1 (Or.inl rfl) rfl ?_
  refine am_s_virtual false dc18_0.2.1.2 rfl (by decide) rfl hx1 rfl (am_mth_of rfl rfl ?_)
  refine am_s_aload_n rfl dc118_0.1.1.1 ?_
  refine am_s_getR (r := x1 + 3) dc118_0.1.1.2 rfl hx1 rfl (am_r9_3 hp hx1) ?_
  refine am_s_iload_n rfl dc118_0.1.2.1 ?_
  refine am_s_bipush am_cb25 dc118_0.1.2.2 ?_
  refine am_s_imul dc118_0.2.1.1 ?_
  refine am_s_iload_n rfl dc118_0.2.1.2 ?_
  refine am_s_iadd dc118_0.2.2.1 ?_
  refine am_x_iaload (x := I (x1 + 3) (Int32.toNatClampNeg ((x2 * 25) + 0))) dc118_0.2.2.2 (am_h9_3 hx1) (q.1) rfl rfl ?_
  refine am_s_iload_n rfl dc118_1.1.1.1 ?_
  refine am_s_iushr dc118_1.1.1.2 ?_
  refine am_s_iconst am_cc1 dc118_1.1.2.1 ?_
  refine am_s_iand dc118_1.1.2.2 ?_
  refine am_s_if_eq dc118_1.2.1.1 rfl (fun c1 => ?_) (fun c1 => ?_)
  · refine am_s_iconst am_cc0 dc118_1.2.2.2 ?_
    refine am_s_zreturn dc118_2 rfl (by decide) (am_bkI ?_)
    refine am_s_if_eq dc18_0.2.2.1 rfl (fun _ => ?_) (fun z => absurd z (by decide))
    refine am_s_aload_n rfl dc18_1.1.1.2 ?_
    refine am_s_astore_n (ls' := [some (.ref 112), some (.ref x1), some (.int x2), some (.ref x1), l4, l5, l6]) rfl rfl dc18_1.1.2.1 ?_
    refine am_s_iload_n rfl dc18_1.1.2.2 ?_
    refine am_s_istore (ls' := [some (.ref 112), some (.ref x1), some (.int x2), some (.ref x1), some (.int x2), l5, l6]) rfl rfl dc18_1.2.1.1 ?_
    refine am_s_iconst am_cc0 dc18_1.2.1.2 ?_
    refine am_s_istore (ls' := [some (.ref 112), some (.ref x1), some (.int x2), some (.ref x1), some (.int x2), some (.int 0), l6]) rfl rfl dc18_1.2.2.1 ?_
    exact (vi_t q.2 c1)
  · refine am_s_iconst am_cc1 dc118_1.2.1.2 ?_
    refine am_s_goto rfl dc118_1.2.2.1 ?_
    refine am_s_zreturn dc118_2 rfl (by decide) (am_bkI ?_)
    refine am_s_if_eq dc18_0.2.2.1 rfl (fun z => absurd z (by decide)) (fun _ => ?_)
    refine am_s_iconst am_cc0 dc18_0.2.2.2 ?_
    exact am_s_ireturn dc18_1.1.1.1 rfl ((vi_f q.2 c1))
theorem v18_23 {sc : Option (Nat × (Nat → Int32))} {d k n : Nat} {P : am_O → Prop} {I : am_I} {J : am_J} {Pf : am_R} (hp : am_PF Pf) {l1 : Option Value} {l2 : Option Value} {x3 : Nat} (hx3 : am_SH[x3]? = some (.inl 9)) {x4 : Int32} {x5 : Int32} {l6 : Option Value} (q : (if 4 ≤ x5 then (P (.inl (some (.int 4)), (am_SH, I, J, Pf), k, n)) else (am_mth d 121 [.ref x3, .int x4] (am_SH, I, J, Pf) (am_af sc d 18 40 [some (.ref 112), l1, l2, some (.ref x3), some (.int x4), some (.int x5), l6] [.int x4, .ref x3, .int (x5 * 3), .ref 116] [.int (x5 * 3), .ref 116] (am_SH, I, J, Pf) k n false P)))) : am_go sc d 18 (23, [some (.ref 112), l1, l2, some (.ref x3), some (.int x4), some (.int x5), l6], [], (am_SH, I, J, Pf), k, n) P := by
  refine am_s_iload rfl dc18_1.2.2.2 ?_
  refine am_s_iconst am_cc4 dc18_2.1.1.1 ?_
  refine am_s_ic_ge dc18_2.1.1.2 rfl (fun c1 => ?_) (fun c1 => ?_)
  · refine am_s_iconst am_cc4 dc18_11.2.1 ?_
    exact am_s_ireturn dc18_11.2.2 rfl ((vi_t q c1))
  · refine am_s_aload_n rfl dc18_2.1.2.1 ?_
    refine am_s_getR (r := 116) dc18_2.1.2.2 rfl rfl rfl (hp _ _ _ rfl) ?_
    refine am_s_iload rfl dc18_2.2.1.1 ?_
    refine am_s_iconst am_cc3 dc18_2.2.1.2 ?_
    refine am_s_imul dc18_2.2.2.1 ?_
    refine am_s_aload_n rfl dc18_2.2.2.2 ?_
    refine am_s_iload rfl dc18_3.1.1.1 ?_
    exact am_s_virtual false dc18_3.1.1.2 rfl (by decide) rfl hx3 rfl ((vi_f q c1))
theorem v18_43 {sc : Option (Nat × (Nat → Int32))} {d k n : Nat} {P : am_O → Prop} {I : am_I} {J : am_J} {Pf : am_R} (hp : am_PF Pf) {l1 : Option Value} {l2 : Option Value} {x3 : Nat} (hx3 : am_SH[x3]? = some (.inl 9)) {x4 : Int32} {x5 : Int32} {l6 : Option Value} {s1 : Int32} {s2 : Int32} (q : (am_in s1 12 = true) ∧ (am_in ((x5 * 3) + 1) 12 = true) ∧ (am_in ((x5 * 3) + 2) 12 = true) ∧ (if 3 ≤ x5 then (P (.inl (some (.int (x5 + 1))), (am_SH, am_u (am_u (am_u I 116 (Int32.toNatClampNeg s1) s2) 116 (Int32.toNatClampNeg ((x5 * 3) + 1)) x4) 116 (Int32.toNatClampNeg ((x5 * 3) + 2)) ((am_u (am_u I 116 (Int32.toNatClampNeg s1) s2) 116 (Int32.toNatClampNeg ((x5 * 3) + 1)) x4) x3 1), J, Pf), k, n)) else (am_in x5 3 = true) ∧ ∃ r90x1 : Nat, (Pf 113 (Int32.toNatClampNeg x5) = some r90x1) ∧ (am_SH[r90x1]? = some (.inl 9)) ∧ (am_mth d 19 [.ref 112, .ref x3, .ref r90x1] (am_SH, am_u (am_u (am_u I 116 (Int32.toNatClampNeg s1) s2) 116 (Int32.toNatClampNeg ((x5 * 3) + 1)) x4) 116 (Int32.toNatClampNeg ((x5 * 3) + 2)) ((am_u (am_u I 116 (Int32.toNatClampNeg s1) s2) 116 (Int32.toNatClampNeg ((x5 * 3) + 1)) x4) x3 1), J, Pf) (am_af sc d 18 91 [some (.ref 112), l1, l2, some (.ref x3), some (.int x4), some (.int x5), l6] [.ref r90x1, .ref x3, .ref 112] [] (am_SH, am_u (am_u (am_u I 116 (Int32.toNatClampNeg s1) s2) 116 (Int32.toNatClampNeg ((x5 * 3) + 1)) x4) 116 (Int32.toNatClampNeg ((x5 * 3) + 2)) ((am_u (am_u I 116 (Int32.toNatClampNeg s1) s2) 116 (Int32.toNatClampNeg ((x5 * 3) + 1)) x4) x3 1), J, Pf) k n true P)))) : am_go sc d 18 (43, [some (.ref 112), l1, l2, some (.ref x3), some (.int x4), some (.int x5), l6], [.int s2, .int s1, .ref 116], (am_SH, I, J, Pf), k, n) P := by
  refine am_s_iastore dc18_3.1.2.1 rfl (q.1) rfl ?_
  refine am_s_aload_n rfl dc18_3.1.2.2 ?_
  refine am_s_getR (r := 116) dc18_3.2.1.1 rfl rfl rfl (hp _ _ _ rfl) ?_
  refine am_s_iload rfl dc18_3.2.1.2 ?_
  refine am_s_iconst am_cc3 dc18_3.2.2.1 ?_
  refine am_s_imul dc18_3.2.2.2 ?_
  refine am_s_iconst am_cc1 dc18_4.1.1.1 ?_
  refine am_s_iadd dc18_4.1.1.2 ?_
  refine am_s_iload rfl dc18_4.1.2.1 ?_
  refine am_s_iastore dc18_4.1.2.2 rfl (q.2.1) rfl ?_
  refine am_s_aload_n rfl dc18_4.2.1.1 ?_
  refine am_s_getR (r := 116) dc18_4.2.1.2 rfl rfl rfl (hp _ _ _ rfl) ?_
  refine am_s_iload rfl dc18_4.2.2.1 ?_
  refine am_s_iconst am_cc3 dc18_4.2.2.2 ?_
  refine am_s_imul dc18_5.1.1.1 ?_
  refine am_s_iconst am_cc2 dc18_5.1.1.2 ?_
  refine am_s_iadd dc18_5.1.2.1 ?_
  refine am_s_aload_n rfl dc18_5.1.2.2 ?_
  refine am_x_getI (x := (am_u (am_u I 116 (Int32.toNatClampNeg s1) s2) 116 (Int32.toNatClampNeg ((x5 * 3) + 1)) x4) x3 1) dc18_5.2.1.1 rfl hx3 (Or.inl rfl) rfl ?_
  refine am_s_iastore dc18_5.2.1.2 rfl (q.2.2.1) rfl ?_
  refine am_s_iload rfl dc18_5.2.2.1 ?_
  refine am_s_aload_n rfl dc18_5.2.2.2 ?_
  refine am_s_getR (r := 113) dc18_6.1.1.1 rfl rfl rfl (hp _ _ _ rfl) ?_
  refine am_s_lenq (x := 3) dc18_6.1.1.2 rfl rfl rfl (by decide +kernel) ?_
  refine am_s_ic_ge dc18_6.1.2.1 rfl (fun c1 => ?_) (fun c1 => ?_)
  · refine am_s_iconst am_ccm1 dc18_7.1.2.2 ?_
    refine am_s_istore (ls' := [some (.ref 112), l1, l2, some (.ref x3), some (.int x4), some (.int x5), some (.int (-1))]) rfl rfl dc18_7.2.1.1 ?_
    refine am_s_iload rfl dc18_7.2.1.2 ?_
    refine am_s_iconst am_ccm1 dc18_7.2.2.1 ?_
    refine am_s_ic_ne dc18_7.2.2.2 rfl (fun z => absurd z (by decide)) (fun _ => ?_)
    refine am_s_iload rfl dc18_8.1.1.1 ?_
    refine am_s_iconst am_cc1 dc18_8.1.1.2 ?_
    refine am_s_iadd dc18_8.1.2.1 ?_
    exact am_s_ireturn dc18_8.1.2.2 rfl ((vi_t q.2.2.2 c1))
  · refine am_s_aload_n rfl dc18_6.1.2.2 ?_
    refine am_s_aload_n rfl dc18_6.2.1.1 ?_
    refine am_s_aload_n rfl dc18_6.2.1.2 ?_
    refine am_s_getR (r := 113) dc18_6.2.2.1 rfl rfl rfl (hp _ _ _ rfl) ?_
    refine am_s_iload rfl dc18_6.2.2.2 ?_
    obtain ⟨r90x1, qx1⟩ := (vi_f q.2.2.2 c1).2
    refine am_s_aaload (r := r90x1) dc18_7.1.1.1 rfl rfl ((vi_f q.2.2.2 c1).1) (qx1.1) ?_
    exact am_s_virtual true dc18_7.1.1.2 rfl (by decide) rfl rfl rfl (qx1.2.2)
theorem v18_94 {sc : Option (Nat × (Nat → Int32))} {d k n : Nat} {P : am_O → Prop} {I : am_I} {J : am_J} {Pf : am_R} (hp : am_PF Pf) {l1 : Option Value} {l2 : Option Value} {l3 : Option Value} {l4 : Option Value} {x5 : Int32} {l6 : Option Value} {s0 : Int32} (hl2 : am_k1 l2 = true) (q : (if s0 = (-1) then (P (.inl (some (.int (x5 + 1))), (am_SH, I, J, Pf), k, n)) else (am_in x5 3 = true) ∧ ∃ r117x1 : Nat, (Pf 113 (Int32.toNatClampNeg x5) = some r117x1) ∧ (am_SH[r117x1]? = some (.inl 9)) ∧ ∃ r112_0x2 : Nat, (Pf 112 0 = some r112_0x2) ∧ (am_SH[r112_0x2]? = some (.inl 4)) ∧ (am_in s0 4 = true) ∧ (am_mth d 2 [.ref 112, .ref r117x1, .int (x5 + 1), .int (I r117x1 1)] (am_SH, I, J, Pf) (am_af sc d 18 141 [some (.ref 112), l1, l2, some (.ref r117x1), some (.int (I (r112_0x2 + 9) (Int32.toNatClampNeg s0))), some (.int x5), some (.int s0)] [.int (I r117x1 1), .int (x5 + 1), .ref r117x1, .ref 112] [] (am_SH, I, J, Pf) k n true P)))) : am_go sc d 18 (94, [some (.ref 112), l1, l2, l3, l4, some (.int x5), l6], [.int s0], (am_SH, I, J, Pf), k, n) P := by
  refine am_s_goto rfl dc18_7.1.2.1 ?_
  refine am_s_istore (ls' := [some (.ref 112), l1, l2, l3, l4, some (.int x5), some (.int s0)]) rfl rfl dc18_7.2.1.1 ?_
  refine am_s_iload rfl dc18_7.2.1.2 ?_
  refine am_s_iconst am_ccm1 dc18_7.2.2.1 ?_
  refine am_s_ic_ne dc18_7.2.2.2 rfl (fun c1 => ?_) (fun c1 => ?_)
  · refine am_s_aload_n rfl dc18_8.2.1.1 ?_
    refine am_s_getR (r := 113) dc18_8.2.1.2 rfl rfl rfl (hp _ _ _ rfl) ?_
    refine am_s_iload rfl dc18_8.2.2.1 ?_
    obtain ⟨r117x1, qx1⟩ := (vi_f q c1).2
    refine am_s_aaload (r := r117x1) dc18_8.2.2.2 rfl rfl ((vi_f q c1).1) (qx1.1) ?_
    refine am_s_astore_n (ls' := [some (.ref 112), l1, l2, some (.ref r117x1), l4, some (.int x5), some (.int s0)]) rfl (am_set1_k (am_kill_x (j := 2) rfl hl2) rfl) dc18_9.1.1.1 ?_
    refine am_s_aload_n rfl dc18_9.1.1.2 ?_
    obtain ⟨r112_0x2, qx2⟩ := qx1.2.2
    refine am_s_getR (r := r112_0x2) dc18_9.1.2.1 rfl rfl rfl (qx2.1) ?_
    refine am_s_getR (r := r112_0x2 + 9) dc18_9.1.2.2 rfl (qx2.2.1) rfl (am_r4_11 hp (qx2.2.1)) ?_
    refine am_s_iload rfl dc18_9.2.1.1 ?_
    refine am_x_iaload (x := I (r112_0x2 + 9) (Int32.toNatClampNeg s0)) dc18_9.2.1.2 (am_h4_11 (qx2.2.1)) (qx2.2.2.1) rfl rfl ?_
    refine am_s_istore (ls' := [some (.ref 112), l1, l2, some (.ref r117x1), some (.int (I (r112_0x2 + 9) (Int32.toNatClampNeg s0))), some (.int x5), some (.int s0)]) rfl rfl dc18_9.2.2.1 ?_
    refine am_s_aload_n rfl dc18_9.2.2.2 ?_
    refine am_s_aload_n rfl dc18_10.1.1.1 ?_
    refine am_s_iload rfl dc18_10.1.1.2 ?_
    refine am_s_iconst am_cc1 dc18_10.1.2.1 ?_
    refine am_s_iadd dc18_10.1.2.2 ?_
    refine am_s_aload_n rfl dc18_10.2.1.1 ?_
    refine am_x_getI (x := I r117x1 1) dc18_10.2.1.2 rfl (qx1.2.1) (Or.inl rfl) rfl ?_
    exact am_s_virtual true dc18_10.2.2.1 rfl (by decide) rfl rfl rfl (qx2.2.2.2)
  · refine am_s_iload rfl dc18_8.1.1.1 ?_
    refine am_s_iconst am_cc1 dc18_8.1.1.2 ?_
    refine am_s_iadd dc18_8.1.2.1 ?_
    exact am_s_ireturn dc18_8.1.2.2 rfl ((vi_t q (Decidable.not_not.mp c1)))
theorem v18_144 {sc : Option (Nat × (Nat → Int32))} {d k n : Nat} {P : am_O → Prop} {I : am_I} {J : am_J} {Pf : am_R} (hp : am_PF Pf) {l1 : Option Value} {l2 : Option Value} {x3 : Nat} (hx3 : am_SH[x3]? = some (.inl 9)) {x4 : Int32} {x5 : Int32} {l6 : Option Value} (q : (am_go sc d 18 (23, [some (.ref 112), l1, l2, some (.ref x3), some (.int x4), some (.int (x5 + 1)), l6], [], (am_SH, I, J, Pf), k, n) P)) : am_go sc d 18 (144, [some (.ref 112), l1, l2, some (.ref x3), some (.int x4), some (.int x5), l6], [], (am_SH, I, J, Pf), k, n) P := by
  refine am_s_iinc (ls' := [some (.ref 112), l1, l2, some (.ref x3), some (.int x4), some (.int (x5 + 1)), l6]) am_cc1 rfl rfl dc18_10.2.2.2 ?_
  refine am_s_goto rfl dc18_11.1 ?_
  exact q
-- wrongQuote (LPrunedParses$Table;LPrunedParses$Table;)I
theorem v19_0 {sc : Option (Nat × (Nat → Int32))} {d k n : Nat} {P : am_O → Prop} {I : am_I} {J : am_J} {Pf : am_R} (hp : am_PF Pf) {x1 : Nat} (hx1 : am_SH[x1]? = some (.inl 9)) {x2 : Nat} (hx2 : am_SH[x2]? = some (.inl 9)) {l3 : Option Value} {l4 : Option Value} (q : (am_go sc d 19 (2, [some (.ref 112), some (.ref x1), some (.ref x2), some (.int 0), l4], [], (am_SH, I, J, Pf), k, n) P)) : am_go sc d 19 (0, [some (.ref 112), some (.ref x1), some (.ref x2), l3, l4], [], (am_SH, I, J, Pf), k, n) P := by
  refine am_s_iconst am_cc0 dc19_0.1.1.1 ?_
  refine am_s_istore_n (ls' := [some (.ref 112), some (.ref x1), some (.ref x2), some (.int 0), l4]) rfl rfl dc19_0.1.1.2 ?_
  exact q
theorem v19_2 {sc : Option (Nat × (Nat → Int32))} {d k n : Nat} {P : am_O → Prop} {I : am_I} {J : am_J} {Pf : am_R} (hp : am_PF Pf) {x1 : Nat} (hx1 : am_SH[x1]? = some (.inl 9)) {x2 : Nat} (hx2 : am_SH[x2]? = some (.inl 9)) {x3 : Int32} {l4 : Option Value} (q : (if (I x1 1) ≤ x3 then (P (.inl (some (.int (-1))), (am_SH, I, J, Pf), k, n)) else (am_go sc d 19 (13, [some (.ref 112), some (.ref x1), some (.ref x2), some (.int x3), some (.int 0)], [], (am_SH, I, J, Pf), k, n) P))) : am_go sc d 19 (2, [some (.ref 112), some (.ref x1), some (.ref x2), some (.int x3), l4], [], (am_SH, I, J, Pf), k, n) P := by
  refine am_s_iload_n rfl dc19_0.1.2.1 ?_
  refine am_s_aload_n rfl dc19_0.1.2.2 ?_
  refine am_x_getI (x := I x1 1) dc19_0.2.1.1 rfl hx1 (Or.inl rfl) rfl ?_
  refine am_s_ic_ge dc19_0.2.1.2 rfl (fun c1 => ?_) (fun c1 => ?_)
  · refine am_s_iconst am_ccm1 dc19_4.2.2.1 ?_
    exact am_s_ireturn dc19_4.2.2.2 rfl ((vi_t q c1))
  · refine am_s_iconst am_cc0 dc19_0.2.2.1 ?_
    refine am_s_istore (ls' := [some (.ref 112), some (.ref x1), some (.ref x2), some (.int x3), some (.int 0)]) rfl rfl dc19_0.2.2.2 ?_
    exact (vi_f q c1)
theorem v19_13 {sc : Option (Nat × (Nat → Int32))} {d k n : Nat} {P : am_O → Prop} {I : am_I} {J : am_J} {Pf : am_R} (hp : am_PF Pf) {x1 : Nat} (hx1 : am_SH[x1]? = some (.inl 9)) {x2 : Nat} (hx2 : am_SH[x2]? = some (.inl 9)) {x3 : Int32} {x4 : Int32} (q : ∃ r112_0x1 : Nat, (Pf 112 0 = some r112_0x1) ∧ (am_SH[r112_0x1]? = some (.inl 4)) ∧ (if (I r112_0x1 9) ≤ x4 then (am_go sc d 19 (2, [some (.ref 112), some (.ref x1), some (.ref x2), some (.int (x3 + 1)), some (.int x4)], [], (am_SH, I, J, Pf), k, n) P) else (am_in ((x4 * 25) + x3) 100 = true) ∧ (if (I (x1 + 4) (Int32.toNatClampNeg ((x4 * 25) + x3))) = (-1) then (am_mth d 115 [.ref x1, .ref r112_0x1, .int x4, .int x3, .ref x2] (am_SH, I, J, Pf) (am_af sc d 19 50 [some (.ref 112), some (.ref x1), some (.ref x2), some (.int x3), some (.int x4)] [.ref x2, .int x3, .int x4, .ref r112_0x1, .ref x1] [] (am_SH, I, J, Pf) k n false P)) else (am_go sc d 19 (13, [some (.ref 112), some (.ref x1), some (.ref x2), some (.int x3), some (.int (x4 + 1))], [], (am_SH, I, J, Pf), k, n) P)))) : am_go sc d 19 (13, [some (.ref 112), some (.ref x1), some (.ref x2), some (.int x3), some (.int x4)], [], (am_SH, I, J, Pf), k, n) P := by
  refine am_s_iload rfl dc19_1.1.1.1 ?_
  refine am_s_aload_n rfl dc19_1.1.1.2 ?_
  obtain ⟨r112_0x1, qx1⟩ := q
  refine am_s_getR (r := r112_0x1) dc19_1.1.2.1 rfl rfl rfl (qx1.1) ?_
  refine am_x_getI (x := I r112_0x1 9) dc19_1.1.2.2 rfl (qx1.2.1) (Or.inl rfl) rfl ?_
  refine am_s_ic_ge dc19_1.2.1.1 rfl (fun c1 => ?_) (fun c1 => ?_)
  · refine am_s_iinc (ls' := [some (.ref 112), some (.ref x1), some (.ref x2), some (.int (x3 + 1)), some (.int x4)]) am_cc1 rfl rfl dc19_4.2.1.1 ?_
    refine am_s_goto rfl dc19_4.2.1.2 ?_
    exact (vi_t qx1.2.2 c1)
  · refine am_s_aload_n rfl dc19_1.2.1.2 ?_
    refine am_s_getR (r := x1 + 4) dc19_1.2.2.1 rfl hx1 rfl (am_r9_4 hp hx1) ?_
    refine am_s_iload rfl dc19_1.2.2.2 ?_
    refine am_s_bipush am_cb25 dc19_2.1.1.1 ?_
    refine am_s_imul dc19_2.1.1.2 ?_
    refine am_s_iload_n rfl dc19_2.1.2.1 ?_
    refine am_s_iadd dc19_2.1.2.2 ?_
    refine am_x_iaload (x := I (x1 + 4) (Int32.toNatClampNeg ((x4 * 25) + x3))) dc19_2.2.1.1 (am_h9_4 hx1) ((vi_f qx1.2.2 c1).1) rfl rfl ?_
    refine am_s_iconst am_ccm1 dc19_2.2.1.2 ?_
    refine am_s_ic_ne dc19_2.2.2.1 rfl (fun c2 => ?_) (fun c2 => ?_)
    · refine am_s_iinc (ls' := [some (.ref 112), some (.ref x1), some (.ref x2), some (.int x3), some (.int (x4 + 1))]) am_cc1 rfl rfl dc19_4.1.2.1 ?_
      refine am_s_goto rfl dc19_4.1.2.2 ?_
      exact (vi_f (vi_f qx1.2.2 c1).2 c2)
    · refine am_s_aload_n rfl dc19_2.2.2.2 ?_
      refine am_s_aload_n rfl dc19_3.1.1.1 ?_
      refine am_s_getR (r := r112_0x1) dc19_3.1.1.2 rfl rfl rfl (qx1.1) ?_
      refine am_s_iload rfl dc19_3.1.2.1 ?_
      refine am_s_iload_n rfl dc19_3.1.2.2 ?_
      refine am_s_aload_n rfl dc19_3.2.1.1 ?_
      exact am_s_virtual false dc19_3.2.1.2 rfl (by decide) rfl hx1 rfl ((vi_t (vi_f qx1.2.2 c1).2 (Decidable.not_not.mp c2)))
theorem v19_53 {sc : Option (Nat × (Nat → Int32))} {d k n : Nat} {P : am_O → Prop} {I : am_I} {J : am_J} {Pf : am_R} (hp : am_PF Pf) {x1 : Nat} (hx1 : am_SH[x1]? = some (.inl 9)) {x2 : Nat} (hx2 : am_SH[x2]? = some (.inl 9)) {x3 : Int32} {x4 : Int32} {s0 : Int32} (q : (if s0 = (-1) then (am_go sc d 19 (13, [some (.ref 112), some (.ref x1), some (.ref x2), some (.int x3), some (.int (x4 + 1))], [], (am_SH, I, J, Pf), k, n) P) else (P (.inl (some (.int x4)), (am_SH, I, J, Pf), k, n)))) : am_go sc d 19 (53, [some (.ref 112), some (.ref x1), some (.ref x2), some (.int x3), some (.int x4)], [.int s0], (am_SH, I, J, Pf), k, n) P := by
  refine am_s_iconst am_ccm1 dc19_3.2.2.1 ?_
  refine am_s_ic_eq dc19_3.2.2.2 rfl (fun c1 => ?_) (fun c1 => ?_)
  · refine am_s_iinc (ls' := [some (.ref 112), some (.ref x1), some (.ref x2), some (.int x3), some (.int (x4 + 1))]) am_cc1 rfl rfl dc19_4.1.2.1 ?_
    refine am_s_goto rfl dc19_4.1.2.2 ?_
    exact (vi_t q c1)
  · refine am_s_iload rfl dc19_4.1.1.1 ?_
    exact am_s_ireturn dc19_4.1.1.2 rfl ((vi_f q c1))
-- keep (LPrunedParses$Table;)V
theorem v71_0 {sc : Option (Nat × (Nat → Int32))} {d k n : Nat} {P : am_O → Prop} {I : am_I} {J : am_J} {Pf : am_R} (hp : am_PF Pf) {x0 : Nat} (hx0 : am_SH[x0]? = some (.inl 5)) {x1 : Nat} (hx1 : am_SH[x1]? = some (.inl 9)) (q : (if (I x0 2) < 17 then (am_go sc d 71 (28, [some (.ref x0), some (.ref x1)], [.int 24, .int ((I x0 2) * 24), .ref (x0 + 1), .int 0, .ref (x1 + 1)], (am_SH, I, J, Pf), k, n) P) else (P (.inl none, (am_SH, I, J, Pf), k, n)))) : am_go sc d 71 (0, [some (.ref x0), some (.ref x1)], [], (am_SH, I, J, Pf), k, n) P := by
  refine am_s_aload_n rfl dc71_0.1.1.1 ?_
  refine am_x_getI (x := I x0 2) dc71_0.1.1.2 rfl hx0 (Or.inl rfl) rfl ?_
  refine am_s_bipush am_cb17 dc71_0.1.2.1 ?_
  refine am_s_ic_lt dc71_0.1.2.2 rfl (fun c1 => ?_) (fun c1 => ?_)
  · refine am_s_aload_n rfl dc71_0.2.1.2 ?_
    refine am_s_getR (r := x1 + 1) dc71_0.2.2.1 rfl hx1 rfl (am_r9_0 hp hx1) ?_
    refine am_s_iconst am_cc0 dc71_0.2.2.2 ?_
    refine am_s_aload_n rfl dc71_1.1.1.1 ?_
    refine am_s_getR (r := x0 + 1) dc71_1.1.1.2 rfl hx0 rfl (am_r5_0 hp hx0) ?_
    refine am_s_aload_n rfl dc71_1.1.2.1 ?_
    refine am_x_getI (x := I x0 2) dc71_1.1.2.2 rfl hx0 (Or.inl rfl) rfl ?_
    refine am_s_bipush am_cb24 dc71_1.2.1.1 ?_
    refine am_s_imul dc71_1.2.1.2 ?_
    refine am_s_bipush am_cb24 dc71_1.2.2.1 ?_
    exact (vi_t q c1)
  · exact am_s_return dc71_0.2.1.1 rfl ((vi_f q c1))
-- giveBack (LPrunedParses$Table;)V
theorem v72_0 {sc : Option (Nat × (Nat → Int32))} {d k n : Nat} {P : am_O → Prop} {I : am_I} {J : am_J} {Pf : am_R} (hp : am_PF Pf) {x0 : Nat} (hx0 : am_SH[x0]? = some (.inl 5)) {x1 : Nat} (hx1 : am_SH[x1]? = some (.inl 9)) (q : (if 1 ≤ (I x0 2) then (am_go sc d 72 (37, [some (.ref x0), some (.ref x1)], [.int 24, .int 0, .ref (x1 + 1), .int (((I x0 2) - 1) * 24), .ref (x0 + 1)], (am_SH, am_u I x0 2 ((I x0 2) - 1), J, Pf), k, n) P) else (P (.inl none, (am_SH, I, J, Pf), k, n)))) : am_go sc d 72 (0, [some (.ref x0), some (.ref x1)], [], (am_SH, I, J, Pf), k, n) P := by
  refine am_s_aload_n rfl dc72_0.1.1.1 ?_
  refine am_x_getI (x := I x0 2) dc72_0.1.1.2 rfl hx0 (Or.inl rfl) rfl ?_
  refine am_s_iconst am_cc1 dc72_0.1.2.1 ?_
  refine am_s_ic_ge dc72_0.1.2.2 rfl (fun c1 => ?_) (fun c1 => ?_)
  · refine am_s_aload_n rfl dc72_0.2.1.2 ?_
    refine am_s_dup rfl dc72_0.2.2.1 ?_
    refine am_x_getI (x := I x0 2) dc72_0.2.2.2 rfl hx0 (Or.inl rfl) rfl ?_
    refine am_s_iconst am_cc1 dc72_1.1.1.1 ?_
    refine am_s_isub dc72_1.1.1.2 ?_
    refine am_s_putI dc72_1.1.2.1 rfl hx0 rfl rfl ?_
    refine am_s_aload_n rfl dc72_1.1.2.2 ?_
    refine am_s_getR (r := x0 + 1) dc72_1.2.1.1 rfl hx0 rfl (am_r5_0 hp hx0) ?_
    refine am_s_aload_n rfl dc72_1.2.1.2 ?_
    refine am_x_getI (x := (I x0 2) - 1) dc72_1.2.2.1 rfl hx0 (Or.inl rfl) (by simp [am_u]) ?_
    refine am_s_bipush am_cb24 dc72_1.2.2.2 ?_
    refine am_s_imul dc72_2.1.1.1 ?_
    refine am_s_aload_n rfl dc72_2.1.1.2 ?_
    refine am_s_getR (r := x1 + 1) dc72_2.1.2.1 rfl hx1 rfl (am_r9_0 hp hx1) ?_
    refine am_s_iconst am_cc0 dc72_2.1.2.2 ?_
    refine am_s_bipush am_cb24 dc72_2.2.1.1 ?_
    exact (vi_t q c1)
  · exact am_s_return dc72_0.2.1.1 rfl ((vi_f q c1))
-- copyFrom (LPrunedParses$Shelf;)V
theorem v73_0 {sc : Option (Nat × (Nat → Int32))} {d k n : Nat} {P : am_O → Prop} {I : am_I} {J : am_J} {Pf : am_R} (hp : am_PF Pf) {x0 : Nat} (hx0 : am_SH[x0]? = some (.inl 5)) {x1 : Nat} (hx1 : am_SH[x1]? = some (.inl 5)) (q : (am_go sc d 73 (15, [some (.ref x0), some (.ref x1)], [.int 408, .int 0, .ref (x0 + 1), .int 0, .ref (x1 + 1)], (am_SH, I, J, Pf), k, n) P)) : am_go sc d 73 (0, [some (.ref x0), some (.ref x1)], [], (am_SH, I, J, Pf), k, n) P := by
  refine am_s_aload_n rfl dc73_0.1.1.1 ?_
  refine am_s_getR (r := x1 + 1) dc73_0.1.1.2 rfl hx1 rfl (am_r5_0 hp hx1) ?_
  refine am_s_iconst am_cc0 dc73_0.1.2.1 ?_
  refine am_s_aload_n rfl dc73_0.1.2.2 ?_
  refine am_s_getR (r := x0 + 1) dc73_0.2.1.1 rfl hx0 rfl (am_r5_0 hp hx0) ?_
  refine am_s_iconst am_cc0 dc73_0.2.1.2 ?_
  refine am_s_aload_n rfl dc73_0.2.2.1 ?_
  refine am_s_getR (r := x0 + 1) dc73_0.2.2.2 rfl hx0 rfl (am_r5_0 hp hx0) ?_
  refine am_s_len (x := 408) dc73_1.1.1.1 (am_h5_0 hx0) rfl (by decide +kernel) ?_
  exact q
-- copyText (LPrunedParses$Table;)V
theorem v109_0 {sc : Option (Nat × (Nat → Int32))} {d k n : Nat} {P : am_O → Prop} {I : am_I} {J : am_J} {Pf : am_R} (hp : am_PF Pf) {x0 : Nat} (hx0 : am_SH[x0]? = some (.inl 9)) {x1 : Nat} (hx1 : am_SH[x1]? = some (.inl 9)) (q : (am_go sc d 109 (22, [some (.ref x0), some (.ref x1)], [.int (I x1 1), .int 0, .ref (x0 + 1), .int 0, .ref (x1 + 1)], (am_SH, am_u I x0 1 (I x1 1), J, Pf), k, n) P)) : am_go sc d 109 (0, [some (.ref x0), some (.ref x1)], [], (am_SH, I, J, Pf), k, n) P := by
  refine am_s_aload_n rfl dc109_0.1.1.1 ?_
  refine am_s_aload_n rfl dc109_0.1.1.2 ?_
  refine am_x_getI (x := I x1 1) dc109_0.1.2.1 rfl hx1 (Or.inl rfl) rfl ?_
  refine am_s_putI dc109_0.1.2.2 rfl hx0 rfl rfl ?_
  refine am_s_aload_n rfl dc109_0.2.1.1 ?_
  refine am_s_getR (r := x1 + 1) dc109_0.2.1.2 rfl hx1 rfl (am_r9_0 hp hx1) ?_
  refine am_s_iconst am_cc0 dc109_0.2.2.1 ?_
  refine am_s_aload_n rfl dc109_0.2.2.2 ?_
  refine am_s_getR (r := x0 + 1) dc109_1.1.1 rfl hx0 rfl (am_r9_0 hp hx0) ?_
  refine am_s_iconst am_cc0 dc109_1.1.2.1 ?_
  refine am_s_aload_n rfl dc109_1.1.2.2 ?_
  refine am_x_getI (x := I x1 1) dc109_1.2.1 rfl hx0 (Or.inl rfl) (by simp [am_u]) ?_
  exact q
-- makeRoom (II)V
theorem v110_0 {sc : Option (Nat × (Nat → Int32))} {d k n : Nat} {P : am_O → Prop} {I : am_I} {J : am_J} {Pf : am_R} (hp : am_PF Pf) {x0 : Nat} (hx0 : am_SH[x0]? = some (.inl 9)) {x1 : Int32} {x2 : Int32} {l3 : Option Value} (q : (am_go sc d 110 (7, [some (.ref x0), some (.int x1), some (.int x2), some (.int ((I x0 1) - 1))], [], (am_SH, I, J, Pf), k, n) P)) : am_go sc d 110 (0, [some (.ref x0), some (.int x1), some (.int x2), l3], [], (am_SH, I, J, Pf), k, n) P := by
  refine am_s_aload_n rfl dc110_0.1.1.1 ?_
  refine am_x_getI (x := I x0 1) dc110_0.1.1.2 rfl hx0 (Or.inl rfl) rfl ?_
  refine am_s_iconst am_cc1 dc110_0.1.2.1 ?_
  refine am_s_isub dc110_0.1.2.2 ?_
  refine am_s_istore_n (ls' := [some (.ref x0), some (.int x1), some (.int x2), some (.int ((I x0 1) - 1))]) rfl rfl dc110_0.2.1.1 ?_
  exact q
theorem v110_7 {sc : Option (Nat × (Nat → Int32))} {d k n : Nat} {P : am_O → Prop} {I : am_I} {J : am_J} {Pf : am_R} (hp : am_PF Pf) {x0 : Nat} (hx0 : am_SH[x0]? = some (.inl 9)) {x1 : Int32} {x2 : Int32} {x3 : Int32} (q : (if x3 < x1 then (P (.inl none, (am_SH, am_u I x0 1 ((I x0 1) + x2), J, Pf), k, n)) else (am_in x3 24 = true) ∧ (am_in (x3 + x2) 24 = true) ∧ (am_go sc d 110 (7, [some (.ref x0), some (.int x1), some (.int x2), some (.int (x3 + (-1)))], [], (am_SH, am_u I (x0 + 1) (Int32.toNatClampNeg (x3 + x2)) (I (x0 + 1) (Int32.toNatClampNeg x3)), J, Pf), k, n) P))) : am_go sc d 110 (7, [some (.ref x0), some (.int x1), some (.int x2), some (.int x3)], [], (am_SH, I, J, Pf), k, n) P := by
  refine am_s_iload_n rfl dc110_0.2.1.2 ?_
  refine am_s_iload_n rfl dc110_0.2.2.1 ?_
  refine am_s_ic_lt dc110_0.2.2.2 rfl (fun c1 => ?_) (fun c1 => ?_)
  · refine am_s_aload_n rfl dc110_2.2.1.1 ?_
    refine am_s_dup rfl dc110_2.2.1.2 ?_
    refine am_x_getI (x := I x0 1) dc110_2.2.2.1 rfl hx0 (Or.inl rfl) rfl ?_
    refine am_s_iload_n rfl dc110_2.2.2.2 ?_
    refine am_s_iadd dc110_3.1 ?_
    refine am_s_putI dc110_3.2.1 rfl hx0 rfl rfl ?_
    exact am_s_return dc110_3.2.2 rfl ((vi_t q c1))
  · refine am_s_aload_n rfl dc110_1.1.1.1 ?_
    refine am_s_getR (r := x0 + 1) dc110_1.1.1.2 rfl hx0 rfl (am_r9_0 hp hx0) ?_
    refine am_s_iload_n rfl dc110_1.1.2.1 ?_
    refine am_s_iload_n rfl dc110_1.1.2.2 ?_
    refine am_s_iadd dc110_1.2.1.1 ?_
    refine am_s_aload_n rfl dc110_1.2.1.2 ?_
    refine am_s_getR (r := x0 + 1) dc110_1.2.2.1 rfl hx0 rfl (am_r9_0 hp hx0) ?_
    refine am_s_iload_n rfl dc110_1.2.2.2 ?_
    refine am_x_iaload (x := I (x0 + 1) (Int32.toNatClampNeg x3)) dc110_2.1.1.1 (am_h9_0 hx0) ((vi_f q c1).1) rfl rfl ?_
    refine am_s_iastore dc110_2.1.1.2 (am_h9_0 hx0) ((vi_f q c1).2.1) rfl ?_
    refine am_s_iinc (ls' := [some (.ref x0), some (.int x1), some (.int x2), some (.int (x3 + (-1)))]) am_ccm1 rfl rfl dc110_2.1.2.1 ?_
    refine am_s_goto rfl dc110_2.1.2.2 ?_
    exact (vi_f q c1).2.2
-- typeSigns (I[III)Z
theorem v111_0 {sc : Option (Nat × (Nat → Int32))} {d k n : Nat} {P : am_O → Prop} {I : am_I} {J : am_J} {Pf : am_R} (hp : am_PF Pf) {x0 : Nat} (hx0 : am_SH[x0]? = some (.inl 9)) {x1 : Int32} {x2 : Nat} {Lx2 : Nat} (hx2 : am_SH[x2]? = some (.inr (0, Lx2))) {x3 : Int32} {x4 : Int32} {l5 : Option Value} (q : (if x1 < 0 then (P (.inl (some (.int 0)), (am_SH, I, J, Pf), k, n)) else (if (I x0 1) < x1 then (P (.inl (some (.int 0)), (am_SH, I, J, Pf), k, n)) else (if x4 < 1 then (P (.inl (some (.int 0)), (am_SH, I, J, Pf), k, n)) else (if ((I x0 1) + x4) ≤ 24 then (am_mth d 110 [.ref x0, .int x1, .int x4] (am_SH, I, J, Pf) (am_af sc d 111 36 [some (.ref x0), some (.int x1), some (.ref x2), some (.int x3), some (.int x4), l5] [.int x4, .int x1, .ref x0] [] (am_SH, I, J, Pf) k n true P)) else (P (.inl (some (.int 0)), (am_SH, I, J, Pf), k, n))))))) : am_go sc d 111 (0, [some (.ref x0), some (.int x1), some (.ref x2), some (.int x3), some (.int x4), l5], [], (am_SH, I, J, Pf), k, n) P := by
  refine am_s_iload_n rfl dc111_0.1.1.1 ?_
  refine am_s_if_lt dc111_0.1.1.2 rfl (fun c1 => ?_) (fun c1 => ?_)
  · refine am_s_iconst am_cc0 dc111_1.2.2.2 ?_
    exact am_s_zreturn dc111_2.1.1.1 rfl (by decide) ((vi_t q c1))
  · refine am_s_iload_n rfl dc111_0.1.2.1 ?_
    refine am_s_aload_n rfl dc111_0.1.2.2 ?_
    refine am_x_getI (x := I x0 1) dc111_0.2.1.1 rfl hx0 (Or.inl rfl) rfl ?_
    refine am_s_ic_gt dc111_0.2.1.2 rfl (fun c2 => ?_) (fun c2 => ?_)
    · refine am_s_iconst am_cc0 dc111_1.2.2.2 ?_
      exact am_s_zreturn dc111_2.1.1.1 rfl (by decide) ((vi_t (vi_f q c1) c2))
    · refine am_s_iload rfl dc111_0.2.2.1 ?_
      refine am_s_iconst am_cc1 dc111_0.2.2.2 ?_
      refine am_s_ic_lt dc111_1.1.1.1 rfl (fun c3 => ?_) (fun c3 => ?_)
      · refine am_s_iconst am_cc0 dc111_1.2.2.2 ?_
        exact am_s_zreturn dc111_2.1.1.1 rfl (by decide) ((vi_t (vi_f (vi_f q c1) c2) c3))
      · refine am_s_aload_n rfl dc111_1.1.1.2 ?_
        refine am_x_getI (x := I x0 1) dc111_1.1.2.1 rfl hx0 (Or.inl rfl) rfl ?_
        refine am_s_iload rfl dc111_1.1.2.2 ?_
        refine am_s_iadd dc111_1.2.1.1 ?_
        refine am_s_bipush am_cb24 dc111_1.2.1.2 ?_
        refine am_s_ic_le dc111_1.2.2.1 rfl (fun c4 => ?_) (fun c4 => ?_)
        · refine am_s_aload_n rfl dc111_2.1.1.2 ?_
          refine am_s_iload_n rfl dc111_2.1.2.1 ?_
          refine am_s_iload rfl dc111_2.1.2.2 ?_
          exact am_s_virtual true dc111_2.2.1.1 rfl (by decide) rfl hx0 rfl ((vi_t (vi_f (vi_f (vi_f q c1) c2) c3) c4))
        · refine am_s_iconst am_cc0 dc111_1.2.2.2 ?_
          exact am_s_zreturn dc111_2.1.1.1 rfl (by decide) ((vi_f (vi_f (vi_f (vi_f q c1) c2) c3) c4))
theorem v111_42 {sc : Option (Nat × (Nat → Int32))} {d k n : Nat} {P : am_O → Prop} {I : am_I} {J : am_J} {Pf : am_R} (hp : am_PF Pf) {x0 : Nat} (hx0 : am_SH[x0]? = some (.inl 9)) {x1 : Int32} {x2 : Nat} {Lx2 : Nat} (hx2 : am_SH[x2]? = some (.inr (0, Lx2))) {x3 : Int32} {x4 : Int32} {x5 : Int32} (q : (if x4 ≤ x5 then (P (.inl (some (.int 1)), (am_SH, I, J, Pf), k, n)) else (am_in (x3 + x5) Lx2 = true) ∧ (am_in (x1 + x5) 24 = true) ∧ (am_go sc d 111 (42, [some (.ref x0), some (.int x1), some (.ref x2), some (.int x3), some (.int x4), some (.int (x5 + 1))], [], (am_SH, am_u I (x0 + 1) (Int32.toNatClampNeg (x1 + x5)) (I x2 (Int32.toNatClampNeg (x3 + x5))), J, Pf), k, n) P))) : am_go sc d 111 (42, [some (.ref x0), some (.int x1), some (.ref x2), some (.int x3), some (.int x4), some (.int x5)], [], (am_SH, I, J, Pf), k, n) P := by
  refine am_s_iload rfl dc111_2.2.2.2 ?_
  refine am_s_iload rfl dc111_3.1.1.1 ?_
  refine am_s_ic_ge dc111_3.1.1.2 rfl (fun c1 => ?_) (fun c1 => ?_)
  · refine am_s_iconst am_cc1 dc111_4.2.2.2 ?_
    exact am_s_zreturn dc111_5 rfl (by decide) ((vi_t q c1))
  · refine am_s_aload_n rfl dc111_3.1.2.1 ?_
    refine am_s_getR (r := x0 + 1) dc111_3.1.2.2 rfl hx0 rfl (am_r9_0 hp hx0) ?_
    refine am_s_iload_n rfl dc111_3.2.1.1 ?_
    refine am_s_iload rfl dc111_3.2.1.2 ?_
    refine am_s_iadd dc111_3.2.2.1 ?_
    refine am_s_aload_n rfl dc111_3.2.2.2 ?_
    refine am_s_iload_n rfl dc111_4.1.1.1 ?_
    refine am_s_iload rfl dc111_4.1.1.2 ?_
    refine am_s_iadd dc111_4.1.2.1 ?_
    refine am_x_iaload (x := I x2 (Int32.toNatClampNeg (x3 + x5))) dc111_4.1.2.2 hx2 ((vi_f q c1).1) rfl rfl ?_
    refine am_s_iastore dc111_4.2.1.1 (am_h9_0 hx0) ((vi_f q c1).2.1) rfl ?_
    refine am_s_iinc (ls' := [some (.ref x0), some (.int x1), some (.ref x2), some (.int x3), some (.int x4), some (.int (x5 + 1))]) am_cc1 rfl rfl dc111_4.2.1.2 ?_
    refine am_s_goto rfl dc111_4.2.2.1 ?_
    exact (vi_f q c1).2.2
theorem v111_39 {sc : Option (Nat × (Nat → Int32))} {d k n : Nat} {P : am_O → Prop} {I : am_I} {J : am_J} {Pf : am_R} (hp : am_PF Pf) {x0 : Nat} (hx0 : am_SH[x0]? = some (.inl 9)) {x1 : Int32} {x2 : Nat} {Lx2 : Nat} (hx2 : am_SH[x2]? = some (.inr (0, Lx2))) {x3 : Int32} {x4 : Int32} {l5 : Option Value} (q : (am_go sc d 111 (42, [some (.ref x0), some (.int x1), some (.ref x2), some (.int x3), some (.int x4), some (.int 0)], [], (am_SH, I, J, Pf), k, n) P)) : am_go sc d 111 (39, [some (.ref x0), some (.int x1), some (.ref x2), some (.int x3), some (.int x4), l5], [], (am_SH, I, J, Pf), k, n) P := by
  refine am_s_iconst am_cc0 dc111_2.2.1.2 ?_
  refine am_s_istore (ls' := [some (.ref x0), some (.int x1), some (.ref x2), some (.int x3), some (.int x4), some (.int 0)]) rfl rfl dc111_2.2.2.1 ?_
  exact q
-- typeSign (II)Z
theorem v112_0 {sc : Option (Nat × (Nat → Int32))} {d k n : Nat} {P : am_O → Prop} {I : am_I} {J : am_J} {Pf : am_R} (hp : am_PF Pf) {x0 : Nat} (hx0 : am_SH[x0]? = some (.inl 9)) {x1 : Int32} {x2 : Int32} (q : (if x1 < 0 then (P (.inl (some (.int 0)), (am_SH, I, J, Pf), k, n)) else (if (I x0 1) < x1 then (P (.inl (some (.int 0)), (am_SH, I, J, Pf), k, n)) else (if ((I x0 1) + 1) ≤ 24 then (am_mth d 110 [.ref x0, .int x1, .int 1] (am_SH, I, J, Pf) (am_af sc d 112 28 [some (.ref x0), some (.int x1), some (.int x2)] [.int 1, .int x1, .ref x0] [] (am_SH, I, J, Pf) k n true P)) else (P (.inl (some (.int 0)), (am_SH, I, J, Pf), k, n)))))) : am_go sc d 112 (0, [some (.ref x0), some (.int x1), some (.int x2)], [], (am_SH, I, J, Pf), k, n) P := by
  refine am_s_iload_n rfl dc112_0.1.1.1 ?_
  refine am_s_if_lt dc112_0.1.1.2 rfl (fun c1 => ?_) (fun c1 => ?_)
  · refine am_s_iconst am_cc0 dc112_1.2.1.1 ?_
    exact am_s_zreturn dc112_1.2.1.2 rfl (by decide) ((vi_t q c1))
  · refine am_s_iload_n rfl dc112_0.1.2.1 ?_
    refine am_s_aload_n rfl dc112_0.1.2.2 ?_
    refine am_x_getI (x := I x0 1) dc112_0.2.1.1 rfl hx0 (Or.inl rfl) rfl ?_
    refine am_s_ic_gt dc112_0.2.1.2 rfl (fun c2 => ?_) (fun c2 => ?_)
    · refine am_s_iconst am_cc0 dc112_1.2.1.1 ?_
      exact am_s_zreturn dc112_1.2.1.2 rfl (by decide) ((vi_t (vi_f q c1) c2))
    · refine am_s_aload_n rfl dc112_0.2.2.1 ?_
      refine am_x_getI (x := I x0 1) dc112_0.2.2.2 rfl hx0 (Or.inl rfl) rfl ?_
      refine am_s_iconst am_cc1 dc112_1.1.1.1 ?_
      refine am_s_iadd dc112_1.1.1.2 ?_
      refine am_s_bipush am_cb24 dc112_1.1.2.1 ?_
      refine am_s_ic_le dc112_1.1.2.2 rfl (fun c3 => ?_) (fun c3 => ?_)
      · refine am_s_aload_n rfl dc112_1.2.2.1 ?_
        refine am_s_iload_n rfl dc112_1.2.2.2 ?_
        refine am_s_iconst am_cc1 dc112_2.1.1.1 ?_
        exact am_s_virtual true dc112_2.1.1.2 rfl (by decide) rfl hx0 rfl ((vi_t (vi_f (vi_f q c1) c2) c3))
      · refine am_s_iconst am_cc0 dc112_1.2.1.1 ?_
        exact am_s_zreturn dc112_1.2.1.2 rfl (by decide) ((vi_f (vi_f (vi_f q c1) c2) c3))
theorem v112_31 {sc : Option (Nat × (Nat → Int32))} {d k n : Nat} {P : am_O → Prop} {I : am_I} {J : am_J} {Pf : am_R} (hp : am_PF Pf) {x0 : Nat} (hx0 : am_SH[x0]? = some (.inl 9)) {x1 : Int32} {x2 : Int32} (q : (am_in x1 24 = true) ∧ (P (.inl (some (.int 1)), (am_SH, am_u I (x0 + 1) (Int32.toNatClampNeg x1) x2, J, Pf), k, n))) : am_go sc d 112 (31, [some (.ref x0), some (.int x1), some (.int x2)], [], (am_SH, I, J, Pf), k, n) P := by
  refine am_s_aload_n rfl dc112_2.1.2.1 ?_
  refine am_s_getR (r := x0 + 1) dc112_2.1.2.2 rfl hx0 rfl (am_r9_0 hp hx0) ?_
  refine am_s_iload_n rfl dc112_2.2.1.1 ?_
  refine am_s_iload_n rfl dc112_2.2.1.2 ?_
  refine am_s_iastore dc112_2.2.2.1 (am_h9_0 hx0) (q.1) rfl ?_
  refine am_s_iconst am_cc1 dc112_2.2.2.2 ?_
  exact am_s_zreturn dc112_3 rfl (by decide) (q.2)
-- cutSigns (II)Z
theorem v113_0 {sc : Option (Nat × (Nat → Int32))} {d k n : Nat} {P : am_O → Prop} {I : am_I} {J : am_J} {Pf : am_R} (hp : am_PF Pf) {x0 : Nat} (hx0 : am_SH[x0]? = some (.inl 9)) {x1 : Int32} {x2 : Int32} {l3 : Option Value} (q : (if x1 < 0 then (P (.inl (some (.int 0)), (am_SH, I, J, Pf), k, n)) else (if x2 < 1 then (P (.inl (some (.int 0)), (am_SH, I, J, Pf), k, n)) else (if (x1 + x2) ≤ (I x0 1) then (am_go sc d 113 (25, [some (.ref x0), some (.int x1), some (.int x2), some (.int (x1 + x2))], [], (am_SH, I, J, Pf), k, n) P) else (P (.inl (some (.int 0)), (am_SH, I, J, Pf), k, n)))))) : am_go sc d 113 (0, [some (.ref x0), some (.int x1), some (.int x2), l3], [], (am_SH, I, J, Pf), k, n) P := by
  refine am_s_iload_n rfl dc113_0.1.1.1 ?_
  refine am_s_if_lt dc113_0.1.1.2 rfl (fun c1 => ?_) (fun c1 => ?_)
  · refine am_s_iconst am_cc0 dc113_1.1.2.2 ?_
    exact am_s_zreturn dc113_1.2.1.1 rfl (by decide) ((vi_t q c1))
  · refine am_s_iload_n rfl dc113_0.1.2.1 ?_
    refine am_s_iconst am_cc1 dc113_0.1.2.2 ?_
    refine am_s_ic_lt dc113_0.2.1.1 rfl (fun c2 => ?_) (fun c2 => ?_)
    · refine am_s_iconst am_cc0 dc113_1.1.2.2 ?_
      exact am_s_zreturn dc113_1.2.1.1 rfl (by decide) ((vi_t (vi_f q c1) c2))
    · refine am_s_iload_n rfl dc113_0.2.1.2 ?_
      refine am_s_iload_n rfl dc113_0.2.2.1 ?_
      refine am_s_iadd dc113_0.2.2.2 ?_
      refine am_s_aload_n rfl dc113_1.1.1.1 ?_
      refine am_x_getI (x := I x0 1) dc113_1.1.1.2 rfl hx0 (Or.inl rfl) rfl ?_
      refine am_s_ic_le dc113_1.1.2.1 rfl (fun c3 => ?_) (fun c3 => ?_)
      · refine am_s_iload_n rfl dc113_1.2.1.2 ?_
        refine am_s_iload_n rfl dc113_1.2.2.1 ?_
        refine am_s_iadd dc113_1.2.2.2 ?_
        refine am_s_istore_n (ls' := [some (.ref x0), some (.int x1), some (.int x2), some (.int (x1 + x2))]) rfl rfl dc113_2.1.1.1 ?_
        exact (vi_t (vi_f (vi_f q c1) c2) c3)
      · refine am_s_iconst am_cc0 dc113_1.1.2.2 ?_
        exact am_s_zreturn dc113_1.2.1.1 rfl (by decide) ((vi_f (vi_f (vi_f q c1) c2) c3))
theorem v113_25 {sc : Option (Nat × (Nat → Int32))} {d k n : Nat} {P : am_O → Prop} {I : am_I} {J : am_J} {Pf : am_R} (hp : am_PF Pf) {x0 : Nat} (hx0 : am_SH[x0]? = some (.inl 9)) {l1 : Option Value} {x2 : Int32} {x3 : Int32} (q : (if (I x0 1) ≤ x3 then (P (.inl (some (.int 1)), (am_SH, am_u I x0 1 ((I x0 1) - x2), J, Pf), k, n)) else (am_in x3 24 = true) ∧ (am_in (x3 - x2) 24 = true) ∧ (am_go sc d 113 (25, [some (.ref x0), l1, some (.int x2), some (.int (x3 + 1))], [], (am_SH, am_u I (x0 + 1) (Int32.toNatClampNeg (x3 - x2)) (I (x0 + 1) (Int32.toNatClampNeg x3)), J, Pf), k, n) P))) : am_go sc d 113 (25, [some (.ref x0), l1, some (.int x2), some (.int x3)], [], (am_SH, I, J, Pf), k, n) P := by
  refine am_s_iload_n rfl dc113_2.1.1.2 ?_
  refine am_s_aload_n rfl dc113_2.1.2.1 ?_
  refine am_x_getI (x := I x0 1) dc113_2.1.2.2 rfl hx0 (Or.inl rfl) rfl ?_
  refine am_s_ic_ge dc113_2.2.1.1 rfl (fun c1 => ?_) (fun c1 => ?_)
  · refine am_s_aload_n rfl dc113_4.1.1.2 ?_
    refine am_s_dup rfl dc113_4.1.2.1 ?_
    refine am_x_getI (x := I x0 1) dc113_4.1.2.2 rfl hx0 (Or.inl rfl) rfl ?_
    refine am_s_iload_n rfl dc113_4.2.1.1 ?_
    refine am_s_isub dc113_4.2.1.2 ?_
    refine am_s_putI dc113_4.2.2.1 rfl hx0 rfl rfl ?_
    refine am_s_iconst am_cc1 dc113_4.2.2.2 ?_
    exact am_s_zreturn dc113_5 rfl (by decide) ((vi_t q c1))
  · refine am_s_aload_n rfl dc113_2.2.1.2 ?_
    refine am_s_getR (r := x0 + 1) dc113_2.2.2.1 rfl hx0 rfl (am_r9_0 hp hx0) ?_
    refine am_s_iload_n rfl dc113_2.2.2.2 ?_
    refine am_s_iload_n rfl dc113_3.1.1.1 ?_
    refine am_s_isub dc113_3.1.1.2 ?_
    refine am_s_aload_n rfl dc113_3.1.2.1 ?_
    refine am_s_getR (r := x0 + 1) dc113_3.1.2.2 rfl hx0 rfl (am_r9_0 hp hx0) ?_
    refine am_s_iload_n rfl dc113_3.2.1.1 ?_
    refine am_x_iaload (x := I (x0 + 1) (Int32.toNatClampNeg x3)) dc113_3.2.1.2 (am_h9_0 hx0) ((vi_f q c1).1) rfl rfl ?_
    refine am_s_iastore dc113_3.2.2.1 (am_h9_0 hx0) ((vi_f q c1).2.1) rfl ?_
    refine am_s_iinc (ls' := [some (.ref x0), l1, some (.int x2), some (.int (x3 + 1))]) am_cc1 rfl rfl dc113_3.2.2.2 ?_
    refine am_s_goto rfl dc113_4.1.1.1 ?_
    exact (vi_f q c1).2.2
-- swapSigns (II)Z
theorem v114_0 {sc : Option (Nat × (Nat → Int32))} {d k n : Nat} {P : am_O → Prop} {I : am_I} {J : am_J} {Pf : am_R} (hp : am_PF Pf) {x0 : Nat} (hx0 : am_SH[x0]? = some (.inl 9)) {x1 : Int32} {x2 : Int32} {l3 : Option Value} (q : (if x1 < 0 then (P (.inl (some (.int 0)), (am_SH, I, J, Pf), k, n)) else (if (I x0 1) ≤ x1 then (P (.inl (some (.int 0)), (am_SH, I, J, Pf), k, n)) else (if x2 < 0 then (P (.inl (some (.int 0)), (am_SH, I, J, Pf), k, n)) else (if x2 < (I x0 1) then (am_in x1 24 = true) ∧ (am_in x2 24 = true) ∧ (if (I (x0 + 1) (Int32.toNatClampNeg x1)) = (I (x0 + 1) (Int32.toNatClampNeg x2)) then (P (.inl (some (.int 0)), (am_SH, I, J, Pf), k, n)) else (am_in x1 24 = true) ∧ (am_in x2 24 = true) ∧ (am_in x1 24 = true) ∧ (am_in x2 24 = true) ∧ (P (.inl (some (.int 1)), (am_SH, am_u (am_u I (x0 + 1) (Int32.toNatClampNeg x1) (I (x0 + 1) (Int32.toNatClampNeg x2))) (x0 + 1) (Int32.toNatClampNeg x2) (I (x0 + 1) (Int32.toNatClampNeg x1)), J, Pf), k, n))) else (P (.inl (some (.int 0)), (am_SH, I, J, Pf), k, n))))))) : am_go sc d 114 (0, [some (.ref x0), some (.int x1), some (.int x2), l3], [], (am_SH, I, J, Pf), k, n) P := by
  refine am_s_iload_n rfl dc114_0.1.1.1 ?_
  refine am_s_if_lt dc114_0.1.1.2 rfl (fun c1 => ?_) (fun c1 => ?_)
  · refine am_s_iconst am_cc0 dc114_1.2.1.1 ?_
    exact am_s_zreturn dc114_1.2.1.2 rfl (by decide) ((vi_t q c1))
  · refine am_s_iload_n rfl dc114_0.1.2.1 ?_
    refine am_s_aload_n rfl dc114_0.1.2.2 ?_
    refine am_x_getI (x := I x0 1) dc114_0.2.1.1 rfl hx0 (Or.inl rfl) rfl ?_
    refine am_s_ic_ge dc114_0.2.1.2 rfl (fun c2 => ?_) (fun c2 => ?_)
    · refine am_s_iconst am_cc0 dc114_1.2.1.1 ?_
      exact am_s_zreturn dc114_1.2.1.2 rfl (by decide) ((vi_t (vi_f q c1) c2))
    · refine am_s_iload_n rfl dc114_0.2.2.1 ?_
      refine am_s_if_lt dc114_0.2.2.2 rfl (fun c3 => ?_) (fun c3 => ?_)
      · refine am_s_iconst am_cc0 dc114_1.2.1.1 ?_
        exact am_s_zreturn dc114_1.2.1.2 rfl (by decide) ((vi_t (vi_f (vi_f q c1) c2) c3))
      · refine am_s_iload_n rfl dc114_1.1.1.1 ?_
        refine am_s_aload_n rfl dc114_1.1.1.2 ?_
        refine am_x_getI (x := I x0 1) dc114_1.1.2.1 rfl hx0 (Or.inl rfl) rfl ?_
        refine am_s_ic_lt dc114_1.1.2.2 rfl (fun c4 => ?_) (fun c4 => ?_)
        · refine am_s_aload_n rfl dc114_1.2.2.1 ?_
          refine am_s_getR (r := x0 + 1) dc114_1.2.2.2 rfl hx0 rfl (am_r9_0 hp hx0) ?_
          refine am_s_iload_n rfl dc114_2.1.1.1 ?_
          refine am_x_iaload (x := I (x0 + 1) (Int32.toNatClampNeg x1)) dc114_2.1.1.2 (am_h9_0 hx0) ((vi_t (vi_f (vi_f (vi_f q c1) c2) c3) c4).1) rfl rfl ?_
          refine am_s_aload_n rfl dc114_2.1.2.1 ?_
          refine am_s_getR (r := x0 + 1) dc114_2.1.2.2 rfl hx0 rfl (am_r9_0 hp hx0) ?_
          refine am_s_iload_n rfl dc114_2.2.1.1 ?_
          refine am_x_iaload (x := I (x0 + 1) (Int32.toNatClampNeg x2)) dc114_2.2.1.2 (am_h9_0 hx0) ((vi_t (vi_f (vi_f (vi_f q c1) c2) c3) c4).2.1) rfl rfl ?_
          refine am_s_ic_ne dc114_2.2.2.1 rfl (fun c5 => ?_) (fun c5 => ?_)
          · refine am_s_aload_n rfl dc114_3.1.1.2 ?_
            refine am_s_getR (r := x0 + 1) dc114_3.1.2.1 rfl hx0 rfl (am_r9_0 hp hx0) ?_
            refine am_s_iload_n rfl dc114_3.1.2.2 ?_
            refine am_x_iaload (x := I (x0 + 1) (Int32.toNatClampNeg x1)) dc114_3.2.1.1 (am_h9_0 hx0) ((vi_f (vi_t (vi_f (vi_f (vi_f q c1) c2) c3) c4).2.2 c5).1) rfl rfl ?_
            refine am_s_istore_n (ls' := [some (.ref x0), some (.int x1), some (.int x2), some (.int (I (x0 + 1) (Int32.toNatClampNeg x1)))]) rfl rfl dc114_3.2.1.2 ?_
            refine am_s_aload_n rfl dc114_3.2.2.1 ?_
            refine am_s_getR (r := x0 + 1) dc114_3.2.2.2 rfl hx0 rfl (am_r9_0 hp hx0) ?_
            refine am_s_iload_n rfl dc114_4.1.1.1 ?_
            refine am_s_aload_n rfl dc114_4.1.1.2 ?_
            refine am_s_getR (r := x0 + 1) dc114_4.1.2.1 rfl hx0 rfl (am_r9_0 hp hx0) ?_
            refine am_s_iload_n rfl dc114_4.1.2.2 ?_
            refine am_x_iaload (x := I (x0 + 1) (Int32.toNatClampNeg x2)) dc114_4.2.1.1 (am_h9_0 hx0) ((vi_f (vi_t (vi_f (vi_f (vi_f q c1) c2) c3) c4).2.2 c5).2.1) rfl rfl ?_
            refine am_s_iastore dc114_4.2.1.2 (am_h9_0 hx0) ((vi_f (vi_t (vi_f (vi_f (vi_f q c1) c2) c3) c4).2.2 c5).2.2.1) rfl ?_
            refine am_s_aload_n rfl dc114_4.2.2.1 ?_
            refine am_s_getR (r := x0 + 1) dc114_4.2.2.2 rfl hx0 rfl (am_r9_0 hp hx0) ?_
            refine am_s_iload_n rfl dc114_5.1.1 ?_
            refine am_s_iload_n rfl dc114_5.1.2 ?_
            refine am_s_iastore dc114_5.2.1 (am_h9_0 hx0) ((vi_f (vi_t (vi_f (vi_f (vi_f q c1) c2) c3) c4).2.2 c5).2.2.2.1) rfl ?_
            refine am_s_iconst am_cc1 dc114_5.2.2.1 ?_
            exact am_s_zreturn dc114_5.2.2.2 rfl (by decide) ((vi_f (vi_t (vi_f (vi_f (vi_f q c1) c2) c3) c4).2.2 c5).2.2.2.2)
          · refine am_s_iconst am_cc0 dc114_2.2.2.2 ?_
            exact am_s_zreturn dc114_3.1.1.1 rfl (by decide) ((vi_t (vi_t (vi_f (vi_f (vi_f q c1) c2) c3) c4).2.2 (Decidable.not_not.mp c5)))
        · refine am_s_iconst am_cc0 dc114_1.2.1.1 ?_
          exact am_s_zreturn dc114_1.2.1.2 rfl (by decide) ((vi_f (vi_f (vi_f (vi_f q c1) c2) c3) c4))
-- copyBody (LPrunedParses$Rules;IILPrunedParses$Table;)I
theorem v115_0 {sc : Option (Nat × (Nat → Int32))} {d k n : Nat} {P : am_O → Prop} {I : am_I} {J : am_J} {Pf : am_R} (hp : am_PF Pf) {x0 : Nat} (hx0 : am_SH[x0]? = some (.inl 9)) {x1 : Nat} (hx1 : am_SH[x1]? = some (.inl 4)) {x2 : Int32} {x3 : Int32} {x4 : Nat} (hx4 : am_SH[x4]? = some (.inl 9)) {l5 : Option Value} {l6 : Option Value} {l7 : Option Value} {l8 : Option Value} {l9 : Option Value} (q : (if x3 < 0 then (P (.inl (some (.int (-1))), (am_SH, I, J, Pf), k, n)) else (if (I x0 1) ≤ x3 then (P (.inl (some (.int (-1))), (am_SH, I, J, Pf), k, n)) else (am_in x3 24 = true) ∧ (am_in (x2 * 3) 12 = true) ∧ (if (I (x0 + 1) (Int32.toNatClampNeg x3)) = (I (x1 + 10) (Int32.toNatClampNeg (x2 * 3))) then (am_in ((x2 * 3) + 1) 12 = true) ∧ (am_in ((x2 * 3) + 2) 12 = true) ∧ (am_go sc d 115 (63, [some (.ref x0), some (.ref x1), some (.int x2), some (.int x3), some (.ref x4), some (.int (I (x1 + 10) (Int32.toNatClampNeg ((x2 * 3) + 1)))), some (.int (I (x1 + 10) (Int32.toNatClampNeg ((x2 * 3) + 2)))), some (.int 0), some (.int (x3 + 1)), l9], [], (am_SH, I, J, Pf), k, n) P) else (P (.inl (some (.int (-1))), (am_SH, I, J, Pf), k, n)))))) : am_go sc d 115 (0, [some (.ref x0), some (.ref x1), some (.int x2), some (.int x3), some (.ref x4), l5, l6, l7, l8, l9], [], (am_SH, I, J, Pf), k, n) P := by
  refine am_s_iload_n rfl dc115_0.1.1.1 ?_
  refine am_s_if_lt dc115_0.1.1.2 rfl (fun c1 => ?_) (fun c1 => ?_)
  · refine am_s_iconst am_ccm1 dc115_2.1.1.2 ?_
    exact am_s_ireturn dc115_2.1.2.1 rfl ((vi_t q c1))
  · refine am_s_iload_n rfl dc115_0.1.2.1 ?_
    refine am_s_aload_n rfl dc115_0.1.2.2 ?_
    refine am_x_getI (x := I x0 1) dc115_0.2.1.1 rfl hx0 (Or.inl rfl) rfl ?_
    refine am_s_ic_ge dc115_0.2.1.2 rfl (fun c2 => ?_) (fun c2 => ?_)
    · refine am_s_iconst am_ccm1 dc115_2.1.1.2 ?_
      exact am_s_ireturn dc115_2.1.2.1 rfl ((vi_t (vi_f q c1) c2))
    · refine am_s_aload_n rfl dc115_0.2.2.1 ?_
      refine am_s_getR (r := x0 + 1) dc115_0.2.2.2 rfl hx0 rfl (am_r9_0 hp hx0) ?_
      refine am_s_iload_n rfl dc115_1.1.1.1 ?_
      refine am_x_iaload (x := I (x0 + 1) (Int32.toNatClampNeg x3)) dc115_1.1.1.2 (am_h9_0 hx0) ((vi_f (vi_f q c1) c2).1) rfl rfl ?_
      refine am_s_aload_n rfl dc115_1.1.2.1 ?_
      refine am_s_getR (r := x1 + 10) dc115_1.1.2.2 rfl hx1 rfl (am_r4_12 hp hx1) ?_
      refine am_s_iload_n rfl dc115_1.2.1.1 ?_
      refine am_s_iconst am_cc3 dc115_1.2.1.2 ?_
      refine am_s_imul dc115_1.2.2.1 ?_
      refine am_x_iaload (x := I (x1 + 10) (Int32.toNatClampNeg (x2 * 3))) dc115_1.2.2.2 (am_h4_12 hx1) ((vi_f (vi_f q c1) c2).2.1) rfl rfl ?_
      refine am_s_ic_eq dc115_2.1.1.1 rfl (fun c3 => ?_) (fun c3 => ?_)
      · refine am_s_aload_n rfl dc115_2.1.2.2 ?_
        refine am_s_getR (r := x1 + 10) dc115_2.2.1.1 rfl hx1 rfl (am_r4_12 hp hx1) ?_
        refine am_s_iload_n rfl dc115_2.2.1.2 ?_
        refine am_s_iconst am_cc3 dc115_2.2.2.1 ?_
        refine am_s_imul dc115_2.2.2.2 ?_
        refine am_s_iconst am_cc1 dc115_3.1.1.1 ?_
        refine am_s_iadd dc115_3.1.1.2 ?_
        refine am_x_iaload (x := I (x1 + 10) (Int32.toNatClampNeg ((x2 * 3) + 1))) dc115_3.1.2.1 (am_h4_12 hx1) ((vi_t (vi_f (vi_f q c1) c2).2.2 c3).1) rfl rfl ?_
        refine am_s_istore (ls' := [some (.ref x0), some (.ref x1), some (.int x2), some (.int x3), some (.ref x4), some (.int (I (x1 + 10) (Int32.toNatClampNeg ((x2 * 3) + 1)))), l6, l7, l8, l9]) rfl rfl dc115_3.1.2.2 ?_
        refine am_s_aload_n rfl dc115_3.2.1.1 ?_
        refine am_s_getR (r := x1 + 10) dc115_3.2.1.2 rfl hx1 rfl (am_r4_12 hp hx1) ?_
        refine am_s_iload_n rfl dc115_3.2.2.1 ?_
        refine am_s_iconst am_cc3 dc115_3.2.2.2 ?_
        refine am_s_imul dc115_4.1.1.1 ?_
        refine am_s_iconst am_cc2 dc115_4.1.1.2 ?_
        refine am_s_iadd dc115_4.1.2.1 ?_
        refine am_x_iaload (x := I (x1 + 10) (Int32.toNatClampNeg ((x2 * 3) + 2))) dc115_4.1.2.2 (am_h4_12 hx1) ((vi_t (vi_f (vi_f q c1) c2).2.2 c3).2.1) rfl rfl ?_
        refine am_s_istore (ls' := [some (.ref x0), some (.ref x1), some (.int x2), some (.int x3), some (.ref x4), some (.int (I (x1 + 10) (Int32.toNatClampNeg ((x2 * 3) + 1)))), some (.int (I (x1 + 10) (Int32.toNatClampNeg ((x2 * 3) + 2)))), l7, l8, l9]) rfl rfl dc115_4.2.1.1 ?_
        refine am_s_iconst am_cc0 dc115_4.2.1.2 ?_
        refine am_s_istore (ls' := [some (.ref x0), some (.ref x1), some (.int x2), some (.int x3), some (.ref x4), some (.int (I (x1 + 10) (Int32.toNatClampNeg ((x2 * 3) + 1)))), some (.int (I (x1 + 10) (Int32.toNatClampNeg ((x2 * 3) + 2)))), some (.int 0), l8, l9]) rfl rfl dc115_4.2.2.1 ?_
        refine am_s_iload_n rfl dc115_4.2.2.2 ?_
        refine am_s_iconst am_cc1 dc115_5.1.1.1 ?_
        refine am_s_iadd dc115_5.1.1.2 ?_
        refine am_s_istore (ls' := [some (.ref x0), some (.ref x1), some (.int x2), some (.int x3), some (.ref x4), some (.int (I (x1 + 10) (Int32.toNatClampNeg ((x2 * 3) + 1)))), some (.int (I (x1 + 10) (Int32.toNatClampNeg ((x2 * 3) + 2)))), some (.int 0), some (.int (x3 + 1)), l9]) rfl rfl dc115_5.1.2.1 ?_
        exact (vi_t (vi_f (vi_f q c1) c2).2.2 c3).2.2
      · refine am_s_iconst am_ccm1 dc115_2.1.1.2 ?_
        exact am_s_ireturn dc115_2.1.2.1 rfl ((vi_f (vi_f (vi_f q c1) c2).2.2 c3))
theorem v115_63 {sc : Option (Nat × (Nat → Int32))} {d k n : Nat} {P : am_O → Prop} {I : am_I} {J : am_J} {Pf : am_R} (hp : am_PF Pf) {x0 : Nat} (hx0 : am_SH[x0]? = some (.inl 9)) {l1 : Option Value} {l2 : Option Value} {l3 : Option Value} {x4 : Nat} (hx4 : am_SH[x4]? = some (.inl 9)) {x5 : Int32} {x6 : Int32} {x7 : Int32} {x8 : Int32} {l9 : Option Value} (q : (if (I x0 1) ≤ x8 then (P (.inl (some (.int (-1))), (am_SH, I, J, Pf), k, n)) else (am_in x8 24 = true) ∧ (if (I (x0 + 1) (Int32.toNatClampNeg x8)) = x5 then (P (.inl (some (.int (x8 + 1))), (am_SH, am_u I x4 1 x7, J, Pf), k, n)) else (if (I (x0 + 1) (Int32.toNatClampNeg x8)) = x6 then (if (x8 + 1) < (I x0 1) then (am_in (x8 + 1) 24 = true) ∧ (am_go sc d 115 (130, [some (.ref x0), l1, l2, l3, some (.ref x4), some (.int x5), some (.int x6), some (.int x7), some (.int (x8 + 1)), some (.int (I (x0 + 1) (Int32.toNatClampNeg (x8 + 1))))], [], (am_SH, I, J, Pf), k, n) P) else (P (.inl (some (.int (-1))), (am_SH, I, J, Pf), k, n))) else (am_go sc d 115 (130, [some (.ref x0), l1, l2, l3, some (.ref x4), some (.int x5), some (.int x6), some (.int x7), some (.int x8), some (.int (I (x0 + 1) (Int32.toNatClampNeg x8)))], [], (am_SH, I, J, Pf), k, n) P))))) : am_go sc d 115 (63, [some (.ref x0), l1, l2, l3, some (.ref x4), some (.int x5), some (.int x6), some (.int x7), some (.int x8), l9], [], (am_SH, I, J, Pf), k, n) P := by
  refine am_s_iload rfl dc115_5.1.2.2 ?_
  refine am_s_aload_n rfl dc115_5.2.1.1 ?_
  refine am_x_getI (x := I x0 1) dc115_5.2.1.2 rfl hx0 (Or.inl rfl) rfl ?_
  refine am_s_ic_ge dc115_5.2.2.1 rfl (fun c1 => ?_) (fun c1 => ?_)
  · refine am_s_iconst am_ccm1 dc115_10.2.2.1 ?_
    exact am_s_ireturn dc115_10.2.2.2 rfl ((vi_t q c1))
  · refine am_s_aload_n rfl dc115_5.2.2.2 ?_
    refine am_s_getR (r := x0 + 1) dc115_6.1.1.1 rfl hx0 rfl (am_r9_0 hp hx0) ?_
    refine am_s_iload rfl dc115_6.1.1.2 ?_
    refine am_x_iaload (x := I (x0 + 1) (Int32.toNatClampNeg x8)) dc115_6.1.2.1 (am_h9_0 hx0) ((vi_f q c1).1) rfl rfl ?_
    refine am_s_istore (ls' := [some (.ref x0), l1, l2, l3, some (.ref x4), some (.int x5), some (.int x6), some (.int x7), some (.int x8), some (.int (I (x0 + 1) (Int32.toNatClampNeg x8)))]) rfl rfl dc115_6.1.2.2 ?_
    refine am_s_iload rfl dc115_6.2.1.1 ?_
    refine am_s_iload rfl dc115_6.2.1.2 ?_
    refine am_s_ic_ne dc115_6.2.2.1 rfl (fun c2 => ?_) (fun c2 => ?_)
    · refine am_s_iload rfl dc115_7.2.2.1 ?_
      refine am_s_iload rfl dc115_7.2.2.2 ?_
      refine am_s_ic_ne dc115_8.1.1.1 rfl (fun c3 => ?_) (fun c3 => ?_)
      · exact (vi_f (vi_f (vi_f q c1).2 c2) c3)
      · refine am_s_iinc (ls' := [some (.ref x0), l1, l2, l3, some (.ref x4), some (.int x5), some (.int x6), some (.int x7), some (.int (x8 + 1)), some (.int (I (x0 + 1) (Int32.toNatClampNeg x8)))]) am_cc1 rfl rfl dc115_8.1.1.2 ?_
        refine am_s_iload rfl dc115_8.1.2.1 ?_
        refine am_s_aload_n rfl dc115_8.1.2.2 ?_
        refine am_x_getI (x := I x0 1) dc115_8.2.1.1 rfl hx0 (Or.inl rfl) rfl ?_
        refine am_s_ic_lt dc115_8.2.1.2 rfl (fun c4 => ?_) (fun c4 => ?_)
        · refine am_s_aload_n rfl dc115_9.1.1.1 ?_
          refine am_s_getR (r := x0 + 1) dc115_9.1.1.2 rfl hx0 rfl (am_r9_0 hp hx0) ?_
          refine am_s_iload rfl dc115_9.1.2.1 ?_
          refine am_x_iaload (x := I (x0 + 1) (Int32.toNatClampNeg (x8 + 1))) dc115_9.1.2.2 (am_h9_0 hx0) ((vi_t (vi_t (vi_f (vi_f q c1).2 c2) (Decidable.not_not.mp c3)) c4).1) rfl rfl ?_
          refine am_s_istore (ls' := [some (.ref x0), l1, l2, l3, some (.ref x4), some (.int x5), some (.int x6), some (.int x7), some (.int (x8 + 1)), some (.int (I (x0 + 1) (Int32.toNatClampNeg (x8 + 1))))]) rfl rfl dc115_9.2.1.1 ?_
          exact (vi_t (vi_t (vi_f (vi_f q c1).2 c2) (Decidable.not_not.mp c3)) c4).2
        · refine am_s_iconst am_ccm1 dc115_8.2.2.1 ?_
          exact am_s_ireturn dc115_8.2.2.2 rfl ((vi_f (vi_t (vi_f (vi_f q c1).2 c2) (Decidable.not_not.mp c3)) c4))
    · refine am_s_aload rfl dc115_6.2.2.2 ?_
      refine am_s_iload rfl dc115_7.1.1.1 ?_
      refine am_s_putI dc115_7.1.1.2 rfl hx4 rfl rfl ?_
      refine am_s_iload rfl dc115_7.1.2.1 ?_
      refine am_s_iconst am_cc1 dc115_7.1.2.2 ?_
      refine am_s_iadd dc115_7.2.1.1 ?_
      exact am_s_ireturn dc115_7.2.1.2 rfl ((vi_t (vi_f q c1).2 (Decidable.not_not.mp c2)))
theorem v115_130 {sc : Option (Nat × (Nat → Int32))} {d k n : Nat} {P : am_O → Prop} {I : am_I} {J : am_J} {Pf : am_R} (hp : am_PF Pf) {x0 : Nat} (hx0 : am_SH[x0]? = some (.inl 9)) {l1 : Option Value} {l2 : Option Value} {l3 : Option Value} {x4 : Nat} (hx4 : am_SH[x4]? = some (.inl 9)) {x5 : Int32} {x6 : Int32} {x7 : Int32} {x8 : Int32} {x9 : Int32} (q : (am_in x7 24 = true) ∧ (am_go sc d 115 (63, [some (.ref x0), l1, l2, l3, some (.ref x4), some (.int x5), some (.int x6), some (.int (x7 + 1)), some (.int (x8 + 1)), some (.int x9)], [], (am_SH, am_u I (x4 + 1) (Int32.toNatClampNeg x7) x9, J, Pf), k, n) P)) : am_go sc d 115 (130, [some (.ref x0), l1, l2, l3, some (.ref x4), some (.int x5), some (.int x6), some (.int x7), some (.int x8), some (.int x9)], [], (am_SH, I, J, Pf), k, n) P := by
  refine am_s_aload rfl dc115_9.2.1.2 ?_
  refine am_s_getR (r := x4 + 1) dc115_9.2.2.1 rfl hx4 rfl (am_r9_0 hp hx4) ?_
  refine am_s_iload rfl dc115_9.2.2.2 ?_
  refine am_s_iload rfl dc115_10.1.1 ?_
  refine am_s_iastore dc115_10.1.2.1 (am_h9_0 hx4) (q.1) rfl ?_
  refine am_s_iinc (ls' := [some (.ref x0), l1, l2, l3, some (.ref x4), some (.int x5), some (.int x6), some (.int (x7 + 1)), some (.int x8), some (.int x9)]) am_cc1 rfl rfl dc115_10.1.2.2 ?_
  refine am_s_iinc (ls' := [some (.ref x0), l1, l2, l3, some (.ref x4), some (.int x5), some (.int x6), some (.int (x7 + 1)), some (.int (x8 + 1)), some (.int x9)]) am_cc1 rfl rfl dc115_10.2.1.1 ?_
  refine am_s_goto rfl dc115_10.2.1.2 ?_
  exact q.2
-- findRuns (LPrunedParses$Rules;)V
theorem v116_0 {sc : Option (Nat × (Nat → Int32))} {d k n : Nat} {P : am_O → Prop} {I : am_I} {J : am_J} {Pf : am_R} (hp : am_PF Pf) {x0 : Nat} (hx0 : am_SH[x0]? = some (.inl 9)) {x1 : Nat} (hx1 : am_SH[x1]? = some (.inl 4)) {l2 : Option Value} {l3 : Option Value} (q : (am_in (I x0 1) 25 = true) ∧ (am_go sc d 116 (20, [some (.ref x0), some (.ref x1), some (.int (((am_u I (x0 + 2) (Int32.toNatClampNeg (I x0 1)) (I x0 1)) x0 1) - 1)), l3], [], (am_SH, am_u I (x0 + 2) (Int32.toNatClampNeg (I x0 1)) (I x0 1), J, Pf), k, n) P)) : am_go sc d 116 (0, [some (.ref x0), some (.ref x1), l2, l3], [], (am_SH, I, J, Pf), k, n) P := by
  refine am_s_aload_n rfl dc116_0.1.1.1 ?_
  refine am_s_getR (r := x0 + 2) dc116_0.1.1.2 rfl hx0 rfl (am_r9_2 hp hx0) ?_
  refine am_s_aload_n rfl dc116_0.1.2.1 ?_
  refine am_x_getI (x := I x0 1) dc116_0.1.2.2 rfl hx0 (Or.inl rfl) rfl ?_
  refine am_s_aload_n rfl dc116_0.2.1.1 ?_
  refine am_x_getI (x := I x0 1) dc116_0.2.1.2 rfl hx0 (Or.inl rfl) rfl ?_
  refine am_s_iastore dc116_0.2.2.1 (am_h9_2 hx0) (q.1) rfl ?_
  refine am_s_aload_n rfl dc116_0.2.2.2 ?_
  refine am_x_getI (x := (am_u I (x0 + 2) (Int32.toNatClampNeg (I x0 1)) (I x0 1)) x0 1) dc116_1.1.1.1 rfl hx0 (Or.inl rfl) rfl ?_
  refine am_s_iconst am_cc1 dc116_1.1.1.2 ?_
  refine am_s_isub dc116_1.1.2.1 ?_
  refine am_s_istore_n (ls' := [some (.ref x0), some (.ref x1), some (.int (((am_u I (x0 + 2) (Int32.toNatClampNeg (I x0 1)) (I x0 1)) x0 1) - 1)), l3]) rfl rfl dc116_1.1.2.2 ?_
  exact q.2
theorem v116_20 {sc : Option (Nat × (Nat → Int32))} {d k n : Nat} {P : am_O → Prop} {I : am_I} {J : am_J} {Pf : am_R} (hp : am_PF Pf) {x0 : Nat} (hx0 : am_SH[x0]? = some (.inl 9)) {x1 : Nat} (hx1 : am_SH[x1]? = some (.inl 4)) {x2 : Int32} {l3 : Option Value} (q : (if x2 < 0 then (P (.inl none, (am_SH, I, J, Pf), k, n)) else (if (I x1 19) = (-1) then (am_go sc d 116 (57, [some (.ref x0), some (.ref x1), some (.int x2), l3], [], (am_SH, I, J, Pf), k, n) P) else (am_in (I x1 19) 8 = true) ∧ ∃ r40x1 : Nat, (Pf (x1 + 1) (Int32.toNatClampNeg (I x1 19)) = some r40x1) ∧ (am_SH[r40x1]? = some (.inl 6)) ∧ (am_in x2 24 = true) ∧ (am_mth d 78 [.ref r40x1, .int (I (x0 + 1) (Int32.toNatClampNeg x2))] (am_SH, I, J, Pf) (am_af sc d 116 47 [some (.ref x0), some (.ref x1), some (.int x2), l3] [.int (I (x0 + 1) (Int32.toNatClampNeg x2)), .ref r40x1] [] (am_SH, I, J, Pf) k n false P))))) : am_go sc d 116 (20, [some (.ref x0), some (.ref x1), some (.int x2), l3], [], (am_SH, I, J, Pf), k, n) P := by
  refine am_s_iload_n rfl dc116_1.2.1.1 ?_
  refine am_s_if_lt dc116_1.2.1.2 rfl (fun c1 => ?_) (fun c1 => ?_)
  · exact am_s_return dc116_6.2 rfl ((vi_t q c1))
  · refine am_s_aload_n rfl dc116_1.2.2.1 ?_
    refine am_x_getI (x := I x1 19) dc116_1.2.2.2 rfl hx1 (Or.inl rfl) rfl ?_
    refine am_s_iconst am_ccm1 dc116_2.1.1.1 ?_
    refine am_s_ic_eq dc116_2.1.1.2 rfl (fun c2 => ?_) (fun c2 => ?_)
    · exact (vi_t (vi_f q c1) c2)
    · refine am_s_aload_n rfl dc116_2.1.2.1 ?_
      refine am_s_getR (r := x1 + 1) dc116_2.1.2.2 rfl hx1 rfl (am_r4_0 hp hx1) ?_
      refine am_s_aload_n rfl dc116_2.2.1.1 ?_
      refine am_x_getI (x := I x1 19) dc116_2.2.1.2 rfl hx1 (Or.inl rfl) rfl ?_
      obtain ⟨r40x1, qx1⟩ := (vi_f (vi_f q c1) c2).2
      refine am_s_aaload (r := r40x1) dc116_2.2.2.1 (am_h4_0 hx1) rfl ((vi_f (vi_f q c1) c2).1) (qx1.1) ?_
      refine am_s_aload_n rfl dc116_2.2.2.2 ?_
      refine am_s_getR (r := x0 + 1) dc116_3.1.1.1 rfl hx0 rfl (am_r9_0 hp hx0) ?_
      refine am_s_iload_n rfl dc116_3.1.1.2 ?_
      refine am_x_iaload (x := I (x0 + 1) (Int32.toNatClampNeg x2)) dc116_3.1.2.1 (am_h9_0 hx0) (qx1.2.2.1) rfl rfl ?_
      exact am_s_virtual false dc116_3.1.2.2 rfl (by decide) rfl (qx1.2.1) rfl (qx1.2.2.2)
theorem v116_57 {sc : Option (Nat × (Nat → Int32))} {d k n : Nat} {P : am_O → Prop} {I : am_I} {J : am_J} {Pf : am_R} (hp : am_PF Pf) {x0 : Nat} (hx0 : am_SH[x0]? = some (.inl 9)) {x1 : Nat} (hx1 : am_SH[x1]? = some (.inl 4)) {x2 : Int32} {l3 : Option Value} (q : (am_in x2 25 = true) ∧ (am_go sc d 116 (20, [some (.ref x0), some (.ref x1), some (.int (x2 + (-1))), some (.int 0)], [], (am_SH, am_u I (x0 + 2) (Int32.toNatClampNeg x2) x2, J, Pf), k, n) P)) : am_go sc d 116 (57, [some (.ref x0), some (.ref x1), some (.int x2), l3], [], (am_SH, I, J, Pf), k, n) P := by
  refine am_s_iconst am_cc0 dc116_3.2.2.2 ?_
  refine am_s_istore_n (ls' := [some (.ref x0), some (.ref x1), some (.int x2), some (.int 0)]) rfl rfl dc116_4.1.1.1 ?_
  refine am_s_aload_n rfl dc116_4.1.1.2 ?_
  refine am_s_getR (r := x0 + 2) dc116_4.1.2.1 rfl hx0 rfl (am_r9_2 hp hx0) ?_
  refine am_s_iload_n rfl dc116_4.1.2.2 ?_
  refine am_s_iload_n rfl dc116_4.2.1.1 ?_
  refine am_s_if_eq dc116_4.2.1.2 rfl (fun _ => ?_) (fun z => absurd z (by decide))
  refine am_s_iload_n rfl dc116_5.2.1.2 ?_
  refine am_s_iastore dc116_5.2.2.1 (am_h9_2 hx0) (q.1) rfl ?_
  refine am_s_iinc (ls' := [some (.ref x0), some (.ref x1), some (.int (x2 + (-1))), some (.int 0)]) am_ccm1 rfl rfl dc116_5.2.2.2 ?_
  refine am_s_goto rfl dc116_6.1 ?_
  exact q.2
theorem v116_50 {sc : Option (Nat × (Nat → Int32))} {d k n : Nat} {P : am_O → Prop} {I : am_I} {J : am_J} {Pf : am_R} (hp : am_PF Pf) {x0 : Nat} (hx0 : am_SH[x0]? = some (.inl 9)) {x1 : Nat} (hx1 : am_SH[x1]? = some (.inl 4)) {x2 : Int32} {l3 : Option Value} {s0 : Int32} (q : (if s0 = 0 then (am_go sc d 116 (57, [some (.ref x0), some (.ref x1), some (.int x2), l3], [], (am_SH, I, J, Pf), k, n) P) else (am_in (x2 + 1) 25 = true) ∧ (am_in x2 25 = true) ∧ (am_go sc d 116 (20, [some (.ref x0), some (.ref x1), some (.int (x2 + (-1))), some (.int 1)], [], (am_SH, am_u I (x0 + 2) (Int32.toNatClampNeg x2) (I (x0 + 2) (Int32.toNatClampNeg (x2 + 1))), J, Pf), k, n) P))) : am_go sc d 116 (50, [some (.ref x0), some (.ref x1), some (.int x2), l3], [.int s0], (am_SH, I, J, Pf), k, n) P := by
  refine am_s_if_eq dc116_3.2.1.1 rfl (fun c1 => ?_) (fun c1 => ?_)
  · exact (vi_t q c1)
  · refine am_s_iconst am_cc1 dc116_3.2.1.2 ?_
    refine am_s_goto rfl dc116_3.2.2.1 ?_
    refine am_s_istore_n (ls' := [some (.ref x0), some (.ref x1), some (.int x2), some (.int 1)]) rfl rfl dc116_4.1.1.1 ?_
    refine am_s_aload_n rfl dc116_4.1.1.2 ?_
    refine am_s_getR (r := x0 + 2) dc116_4.1.2.1 rfl hx0 rfl (am_r9_2 hp hx0) ?_
    refine am_s_iload_n rfl dc116_4.1.2.2 ?_
    refine am_s_iload_n rfl dc116_4.2.1.1 ?_
    refine am_s_if_eq dc116_4.2.1.2 rfl (fun z => absurd z (by decide)) (fun _ => ?_)
    refine am_s_aload_n rfl dc116_4.2.2.1 ?_
    refine am_s_getR (r := x0 + 2) dc116_4.2.2.2 rfl hx0 rfl (am_r9_2 hp hx0) ?_
    refine am_s_iload_n rfl dc116_5.1.1.1 ?_
    refine am_s_iconst am_cc1 dc116_5.1.1.2 ?_
    refine am_s_iadd dc116_5.1.2.1 ?_
    refine am_x_iaload (x := I (x0 + 2) (Int32.toNatClampNeg (x2 + 1))) dc116_5.1.2.2 (am_h9_2 hx0) ((vi_f q c1).1) rfl rfl ?_
    refine am_s_goto rfl dc116_5.2.1.1 ?_
    refine am_s_iastore dc116_5.2.2.1 (am_h9_2 hx0) ((vi_f q c1).2.1) rfl ?_
    refine am_s_iinc (ls' := [some (.ref x0), some (.ref x1), some (.int (x2 + (-1))), some (.int 1)]) am_ccm1 rfl rfl dc116_5.2.2.2 ?_
    refine am_s_goto rfl dc116_6.1 ?_
    exact (vi_f q c1).2.2
-- behindLayout (I)I
theorem v117_0 {sc : Option (Nat × (Nat → Int32))} {d k n : Nat} {P : am_O → Prop} {I : am_I} {J : am_J} {Pf : am_R} (hp : am_PF Pf) {x0 : Nat} (hx0 : am_SH[x0]? = some (.inl 9)) {x1 : Int32} {l2 : Option Value} {l3 : Option Value} (q : (am_go sc d 117 (4, [some (.ref x0), some (.int x1), some (.int 0), some (.int 0)], [], (am_SH, I, J, Pf), k, n) P)) : am_go sc d 117 (0, [some (.ref x0), some (.int x1), l2, l3], [], (am_SH, I, J, Pf), k, n) P := by
  refine am_s_iconst am_cc0 dc117_0.1.1.1 ?_
  refine am_s_istore_n (ls' := [some (.ref x0), some (.int x1), some (.int 0), l3]) rfl rfl dc117_0.1.1.2 ?_
  refine am_s_iconst am_cc0 dc117_0.1.2.1 ?_
  refine am_s_istore_n (ls' := [some (.ref x0), some (.int x1), some (.int 0), some (.int 0)]) rfl rfl dc117_0.1.2.2 ?_
  exact q
theorem v117_4 {sc : Option (Nat × (Nat → Int32))} {d k n : Nat} {P : am_O → Prop} {I : am_I} {J : am_J} {Pf : am_R} (hp : am_PF Pf) {x0 : Nat} (hx0 : am_SH[x0]? = some (.inl 9)) {x1 : Int32} {x2 : Int32} {x3 : Int32} (q : (if (I x0 1) < x3 then (P (.inl (some (.int x2)), (am_SH, I, J, Pf), k, n)) else (if ((UInt32.toInt32 (Int32.toUInt32 x1 >>> (Int32.toUInt32 x3 &&& Int32.toUInt32 31))) &&& 1) = 0 then (am_go sc d 117 (4, [some (.ref x0), some (.int x1), some (.int x2), some (.int (x3 + 1))], [], (am_SH, I, J, Pf), k, n) P) else (am_in x3 25 = true) ∧ (am_go sc d 117 (4, [some (.ref x0), some (.int x1), some (.int (x2 ||| ((1 : Int32) <<< ((I (x0 + 2) (Int32.toNatClampNeg x3)) &&& 31)))), some (.int (x3 + 1))], [], (am_SH, I, J, Pf), k, n) P)))) : am_go sc d 117 (4, [some (.ref x0), some (.int x1), some (.int x2), some (.int x3)], [], (am_SH, I, J, Pf), k, n) P := by
  refine am_s_iload_n rfl dc117_0.2.1.1 ?_
  refine am_s_aload_n rfl dc117_0.2.1.2 ?_
  refine am_x_getI (x := I x0 1) dc117_0.2.2.1 rfl hx0 (Or.inl rfl) rfl ?_
  refine am_s_ic_gt dc117_0.2.2.2 rfl (fun c1 => ?_) (fun c1 => ?_)
  · refine am_s_iload_n rfl dc117_3.2.1 ?_
    exact am_s_ireturn dc117_3.2.2 rfl ((vi_t q c1))
  · refine am_s_iload_n rfl dc117_1.1.1.1 ?_
    refine am_s_iload_n rfl dc117_1.1.1.2 ?_
    refine am_s_iushr dc117_1.1.2.1 ?_
    refine am_s_iconst am_cc1 dc117_1.1.2.2 ?_
    refine am_s_iand dc117_1.2.1.1 ?_
    refine am_s_if_eq dc117_1.2.1.2 rfl (fun c2 => ?_) (fun c2 => ?_)
    · refine am_s_iinc (ls' := [some (.ref x0), some (.int x1), some (.int x2), some (.int (x3 + 1))]) am_cc1 rfl rfl dc117_2.2.2.2 ?_
      refine am_s_goto rfl dc117_3.1 ?_
      exact (vi_t (vi_f q c1) c2)
    · refine am_s_iload_n rfl dc117_1.2.2.1 ?_
      refine am_s_iconst am_cc1 dc117_1.2.2.2 ?_
      refine am_s_aload_n rfl dc117_2.1.1.1 ?_
      refine am_s_getR (r := x0 + 2) dc117_2.1.1.2 rfl hx0 rfl (am_r9_2 hp hx0) ?_
      refine am_s_iload_n rfl dc117_2.1.2.1 ?_
      refine am_x_iaload (x := I (x0 + 2) (Int32.toNatClampNeg x3)) dc117_2.1.2.2 (am_h9_2 hx0) ((vi_f (vi_f q c1) c2).1) rfl rfl ?_
      refine am_s_ishl dc117_2.2.1.1 ?_
      refine am_s_ior dc117_2.2.1.2 ?_
      refine am_s_istore_n (ls' := [some (.ref x0), some (.int x1), some (.int (x2 ||| ((1 : Int32) <<< ((I (x0 + 2) (Int32.toNatClampNeg x3)) &&& 31)))), some (.int x3)]) rfl rfl dc117_2.2.2.1 ?_
      refine am_s_iinc (ls' := [some (.ref x0), some (.int x1), some (.int (x2 ||| ((1 : Int32) <<< ((I (x0 + 2) (Int32.toNatClampNeg x3)) &&& 31)))), some (.int (x3 + 1))]) am_cc1 rfl rfl dc117_2.2.2.2 ?_
      refine am_s_goto rfl dc117_3.1 ?_
      exact (vi_f (vi_f q c1) c2).2
-- isOf (III)Z
theorem v118_0 {sc : Option (Nat × (Nat → Int32))} {d k n : Nat} {P : am_O → Prop} {I : am_I} {J : am_J} {Pf : am_R} (hp : am_PF Pf) {x0 : Nat} (hx0 : am_SH[x0]? = some (.inl 9)) {x1 : Int32} {x2 : Int32} {x3 : Int32} (q : (am_in ((x1 * 25) + x2) 200 = true) ∧ (if ((UInt32.toInt32 (Int32.toUInt32 (I (x0 + 3) (Int32.toNatClampNeg ((x1 * 25) + x2))) >>> (Int32.toUInt32 x3 &&& Int32.toUInt32 31))) &&& 1) = 0 then (P (.inl (some (.int 0)), (am_SH, I, J, Pf), k, n)) else (P (.inl (some (.int 1)), (am_SH, I, J, Pf), k, n)))) : am_go sc d 118 (0, [some (.ref x0), some (.int x1), some (.int x2), some (.int x3)], [], (am_SH, I, J, Pf), k, n) P := by
  refine am_s_aload_n rfl dc118_0.1.1.1 ?_
  refine am_s_getR (r := x0 + 3) dc118_0.1.1.2 rfl hx0 rfl (am_r9_3 hp hx0) ?_
  refine am_s_iload_n rfl dc118_0.1.2.1 ?_
  refine am_s_bipush am_cb25 dc118_0.1.2.2 ?_
  refine am_s_imul dc118_0.2.1.1 ?_
  refine am_s_iload_n rfl dc118_0.2.1.2 ?_
  refine am_s_iadd dc118_0.2.2.1 ?_
  refine am_x_iaload (x := I (x0 + 3) (Int32.toNatClampNeg ((x1 * 25) + x2))) dc118_0.2.2.2 (am_h9_3 hx0) (q.1) rfl rfl ?_
  refine am_s_iload_n rfl dc118_1.1.1.1 ?_
  refine am_s_iushr dc118_1.1.1.2 ?_
  refine am_s_iconst am_cc1 dc118_1.1.2.1 ?_
  refine am_s_iand dc118_1.1.2.2 ?_
  refine am_s_if_eq dc118_1.2.1.1 rfl (fun c1 => ?_) (fun c1 => ?_)
  · refine am_s_iconst am_cc0 dc118_1.2.2.2 ?_
    exact am_s_zreturn dc118_2 rfl (by decide) ((vi_t q.2 c1))
  · refine am_s_iconst am_cc1 dc118_1.2.1.2 ?_
    refine am_s_goto rfl dc118_1.2.2.1 ?_
    exact am_s_zreturn dc118_2 rfl (by decide) ((vi_f q.2 c1))
-- whole ()I
theorem v119_0 {sc : Option (Nat × (Nat → Int32))} {d k n : Nat} {P : am_O → Prop} {I : am_I} {J : am_J} {Pf : am_R} (hp : am_PF Pf) {x0 : Nat} (hx0 : am_SH[x0]? = some (.inl 9)) {l1 : Option Value} {l2 : Option Value} (q : (am_go sc d 119 (4, [some (.ref x0), some (.int 0), some (.int 0)], [], (am_SH, I, J, Pf), k, n) P)) : am_go sc d 119 (0, [some (.ref x0), l1, l2], [], (am_SH, I, J, Pf), k, n) P := by
  refine am_s_iconst am_cc0 dc119_0.1.1.1 ?_
  refine am_s_istore_n (ls' := [some (.ref x0), some (.int 0), l2]) rfl rfl dc119_0.1.1.2 ?_
  refine am_s_iconst am_cc0 dc119_0.1.2.1 ?_
  refine am_s_istore_n (ls' := [some (.ref x0), some (.int 0), some (.int 0)]) rfl rfl dc119_0.1.2.2 ?_
  exact q
theorem v119_4 {sc : Option (Nat × (Nat → Int32))} {d k n : Nat} {P : am_O → Prop} {I : am_I} {J : am_J} {Pf : am_R} (hp : am_PF Pf) {x0 : Nat} (hx0 : am_SH[x0]? = some (.inl 9)) {x1 : Int32} {x2 : Int32} (q : (if 8 ≤ x2 then (P (.inl (some (.int x1)), (am_SH, I, J, Pf), k, n)) else (am_in ((x2 * 25) + 0) 200 = true) ∧ (if ((UInt32.toInt32 (Int32.toUInt32 (I (x0 + 3) (Int32.toNatClampNeg ((x2 * 25) + 0))) >>> (Int32.toUInt32 (I x0 1) &&& Int32.toUInt32 31))) &&& 1) = 0 then (am_go sc (d + 1) 119 (4, [some (.ref x0), some (.int x1), some (.int (x2 + 1))], [], (am_SH, I, J, Pf), k, n) P) else (am_go sc (d + 1) 119 (4, [some (.ref x0), some (.int (x1 ||| ((1 : Int32) <<< (x2 &&& 31)))), some (.int (x2 + 1))], [], (am_SH, I, J, Pf), k, n) P)))) : am_go sc (d + 1) 119 (4, [some (.ref x0), some (.int x1), some (.int x2)], [], (am_SH, I, J, Pf), k, n) P := by
  refine am_s_iload_n rfl dc119_0.2.1.1 ?_
  refine am_s_bipush am_cb8 dc119_0.2.1.2 ?_
  refine am_s_ic_ge dc119_0.2.2.1 rfl (fun c1 => ?_) (fun c1 => ?_)
  · refine am_s_iload_n rfl dc119_2.2.2.1 ?_
    exact am_s_ireturn dc119_2.2.2.2 rfl ((vi_t q c1))
  · refine am_s_aload_n rfl dc119_0.2.2.2 ?_
    refine am_s_iload_n rfl dc119_1.1.1.1 ?_
    refine am_s_iconst am_cc0 dc119_1.1.1.2 ?_
    refine am_s_aload_n rfl dc119_1.1.2.1 ?_
    refine am_x_getI (x := I x0 1) dc119_1.1.2.2 rfl hx0 (Or.inl rfl) rfl ?_
    refine am_s_virtual true dc119_1.2.1.1 rfl (by decide) rfl hx0 rfl (am_mth_of rfl rfl ?_)
    refine am_s_aload_n rfl dc118_0.1.1.1 ?_
    refine am_s_getR (r := x0 + 3) dc118_0.1.1.2 rfl hx0 rfl (am_r9_3 hp hx0) ?_
    refine am_s_iload_n rfl dc118_0.1.2.1 ?_
    refine am_s_bipush am_cb25 dc118_0.1.2.2 ?_
    refine am_s_imul dc118_0.2.1.1 ?_
    refine am_s_iload_n rfl dc118_0.2.1.2 ?_
    refine am_s_iadd dc118_0.2.2.1 ?_
    refine am_x_iaload (x := I (x0 + 3) (Int32.toNatClampNeg ((x2 * 25) + 0))) dc118_0.2.2.2 (am_h9_3 hx0) ((vi_f q c1).1) rfl rfl ?_
    refine am_s_iload_n rfl dc118_1.1.1.1 ?_
    refine am_s_iushr dc118_1.1.1.2 ?_
    refine am_s_iconst am_cc1 dc118_1.1.2.1 ?_
    refine am_s_iand dc118_1.1.2.2 ?_
    refine am_s_if_eq dc118_1.2.1.1 rfl (fun c2 => ?_) (fun c2 => ?_)
    · refine am_s_iconst am_cc0 dc118_1.2.2.2 ?_
      refine am_s_zreturn dc118_2 rfl (by decide) (am_bkI ?_)
      refine am_s_if_eq dc119_1.2.1.2 rfl (fun _ => ?_) (fun z => absurd z (by decide))
      refine am_s_iinc (ls' := [some (.ref x0), some (.int x1), some (.int (x2 + 1))]) am_cc1 rfl rfl dc119_2.2.1.1 ?_
      refine am_s_goto rfl dc119_2.2.1.2 ?_
      exact (vi_t (vi_f q c1).2 c2)
    · refine am_s_iconst am_cc1 dc118_1.2.1.2 ?_
      refine am_s_goto rfl dc118_1.2.2.1 ?_
      refine am_s_zreturn dc118_2 rfl (by decide) (am_bkI ?_)
      refine am_s_if_eq dc119_1.2.1.2 rfl (fun z => absurd z (by decide)) (fun _ => ?_)
      refine am_s_iload_n rfl dc119_1.2.2.1 ?_
      refine am_s_iconst am_cc1 dc119_1.2.2.2 ?_
      refine am_s_iload_n rfl dc119_2.1.1.1 ?_
      refine am_s_ishl dc119_2.1.1.2 ?_
      refine am_s_ior dc119_2.1.2.1 ?_
      refine am_s_istore_n (ls' := [some (.ref x0), some (.int (x1 ||| ((1 : Int32) <<< (x2 &&& 31)))), some (.int x2)]) rfl rfl dc119_2.1.2.2 ?_
      refine am_s_iinc (ls' := [some (.ref x0), some (.int (x1 ||| ((1 : Int32) <<< (x2 &&& 31)))), some (.int (x2 + 1))]) am_cc1 rfl rfl dc119_2.2.1.1 ?_
      refine am_s_goto rfl dc119_2.2.1.2 ?_
      exact (vi_f (vi_f q c1).2 c2)
-- piecesOf (I)I
theorem v120_0 {sc : Option (Nat × (Nat → Int32))} {d k n : Nat} {P : am_O → Prop} {I : am_I} {J : am_J} {Pf : am_R} (hp : am_PF Pf) {x0 : Nat} (hx0 : am_SH[x0]? = some (.inl 9)) {x1 : Int32} {l2 : Option Value} {l3 : Option Value} (q : (am_go sc d 120 (4, [some (.ref x0), some (.int x1), some (.int 0), some (.int 0)], [], (am_SH, I, J, Pf), k, n) P)) : am_go sc d 120 (0, [some (.ref x0), some (.int x1), l2, l3], [], (am_SH, I, J, Pf), k, n) P := by
  refine am_s_iconst am_cc0 dc120_0.1.1.1 ?_
  refine am_s_istore_n (ls' := [some (.ref x0), some (.int x1), some (.int 0), l3]) rfl rfl dc120_0.1.1.2 ?_
  refine am_s_iconst am_cc0 dc120_0.1.2.1 ?_
  refine am_s_istore_n (ls' := [some (.ref x0), some (.int x1), some (.int 0), some (.int 0)]) rfl rfl dc120_0.1.2.2 ?_
  exact q
theorem v120_4 {sc : Option (Nat × (Nat → Int32))} {d k n : Nat} {P : am_O → Prop} {I : am_I} {J : am_J} {Pf : am_R} (hp : am_PF Pf) {x0 : Nat} (hx0 : am_SH[x0]? = some (.inl 9)) {x1 : Int32} {x2 : Int32} {x3 : Int32} (q : (if (I x0 1) < x3 then (P (.inl (some (.int x2)), (am_SH, I, J, Pf), k, n)) else (am_in ((x1 * 25) + x3) 200 = true) ∧ (am_mth d 327 [.int (I (x0 + 3) (Int32.toNatClampNeg ((x1 * 25) + x3)))] (am_SH, I, J, Pf) (am_af sc d 120 24 [some (.ref x0), some (.int x1), some (.int x2), some (.int x3)] [.int (I (x0 + 3) (Int32.toNatClampNeg ((x1 * 25) + x3))), .int x2] [.int x2] (am_SH, I, J, Pf) k n false P)))) : am_go sc d 120 (4, [some (.ref x0), some (.int x1), some (.int x2), some (.int x3)], [], (am_SH, I, J, Pf), k, n) P := by
  refine am_s_iload_n rfl dc120_0.2.1.1 ?_
  refine am_s_aload_n rfl dc120_0.2.1.2 ?_
  refine am_x_getI (x := I x0 1) dc120_0.2.2.1 rfl hx0 (Or.inl rfl) rfl ?_
  refine am_s_ic_gt dc120_0.2.2.2 rfl (fun c1 => ?_) (fun c1 => ?_)
  · refine am_s_iload_n rfl dc120_2.2.2.1 ?_
    exact am_s_ireturn dc120_2.2.2.2 rfl ((vi_t q c1))
  · refine am_s_iload_n rfl dc120_1.1.1.1 ?_
    refine am_s_aload_n rfl dc120_1.1.1.2 ?_
    refine am_s_getR (r := x0 + 3) dc120_1.1.2.1 rfl hx0 rfl (am_r9_3 hp hx0) ?_
    refine am_s_iload_n rfl dc120_1.1.2.2 ?_
    refine am_s_bipush am_cb25 dc120_1.2.1.1 ?_
    refine am_s_imul dc120_1.2.1.2 ?_
    refine am_s_iload_n rfl dc120_1.2.2.1 ?_
    refine am_s_iadd dc120_1.2.2.2 ?_
    refine am_x_iaload (x := I (x0 + 3) (Int32.toNatClampNeg ((x1 * 25) + x3))) dc120_2.1.1.1 (am_h9_3 hx0) ((vi_f q c1).1) rfl rfl ?_
    exact am_s_static dc120_2.1.1.2 rfl rfl rfl ((vi_f q c1).2)
theorem v120_27 {sc : Option (Nat × (Nat → Int32))} {d k n : Nat} {P : am_O → Prop} {I : am_I} {J : am_J} {Pf : am_R} (hp : am_PF Pf) {x0 : Nat} (hx0 : am_SH[x0]? = some (.inl 9)) {x1 : Int32} {l2 : Option Value} {x3 : Int32} {s0 : Int32} {s1 : Int32} (q : (am_go sc d 120 (4, [some (.ref x0), some (.int x1), some (.int (s0 + s1)), some (.int (x3 + 1))], [], (am_SH, I, J, Pf), k, n) P)) : am_go sc d 120 (27, [some (.ref x0), some (.int x1), l2, some (.int x3)], [.int s1, .int s0], (am_SH, I, J, Pf), k, n) P := by
  refine am_s_iadd dc120_2.1.2.1 ?_
  refine am_s_istore_n (ls' := [some (.ref x0), some (.int x1), some (.int (s0 + s1)), some (.int x3)]) rfl rfl dc120_2.1.2.2 ?_
  refine am_s_iinc (ls' := [some (.ref x0), some (.int x1), some (.int (s0 + s1)), some (.int (x3 + 1))]) am_cc1 rfl rfl dc120_2.2.1.1 ?_
  refine am_s_goto rfl dc120_2.2.1.2 ?_
  exact q
-- greatestEnd (I)I
theorem v121_0 {sc : Option (Nat × (Nat → Int32))} {d k n : Nat} {P : am_O → Prop} {I : am_I} {J : am_J} {Pf : am_R} (hp : am_PF Pf) {x0 : Nat} (hx0 : am_SH[x0]? = some (.inl 9)) {x1 : Int32} {l2 : Option Value} (q : (am_go sc d 121 (5, [some (.ref x0), some (.int x1), some (.int (I x0 1))], [], (am_SH, I, J, Pf), k, n) P)) : am_go sc d 121 (0, [some (.ref x0), some (.int x1), l2], [], (am_SH, I, J, Pf), k, n) P := by
  refine am_s_aload_n rfl dc121_0.1.1.1 ?_
  refine am_x_getI (x := I x0 1) dc121_0.1.1.2 rfl hx0 (Or.inl rfl) rfl ?_
  refine am_s_istore_n (ls' := [some (.ref x0), some (.int x1), some (.int (I x0 1))]) rfl rfl dc121_0.1.2.1 ?_
  exact q
theorem v121_5 {sc : Option (Nat × (Nat → Int32))} {d k n : Nat} {P : am_O → Prop} {I : am_I} {J : am_J} {Pf : am_R} (hp : am_PF Pf) {x0 : Nat} (hx0 : am_SH[x0]? = some (.inl 9)) {x1 : Int32} {x2 : Int32} (q : (if x2 ≤ 0 then (P (.inl (some (.int 0)), (am_SH, I, J, Pf), k, n)) else (am_in ((x1 * 25) + 0) 200 = true) ∧ (if ((UInt32.toInt32 (Int32.toUInt32 (I (x0 + 3) (Int32.toNatClampNeg ((x1 * 25) + 0))) >>> (Int32.toUInt32 x2 &&& Int32.toUInt32 31))) &&& 1) = 0 then (am_go sc (d + 1) 121 (5, [some (.ref x0), some (.int x1), some (.int (x2 + (-1)))], [], (am_SH, I, J, Pf), k, n) P) else (P (.inl (some (.int x2)), (am_SH, I, J, Pf), k, n))))) : am_go sc (d + 1) 121 (5, [some (.ref x0), some (.int x1), some (.int x2)], [], (am_SH, I, J, Pf), k, n) P := by
  refine am_s_iload_n rfl dc121_0.1.2.2 ?_
  refine am_s_if_le dc121_0.2.1.1 rfl (fun c1 => ?_) (fun c1 => ?_)
  · refine am_s_iconst am_cc0 dc121_1.2.2.2 ?_
    exact am_s_ireturn dc121_2 rfl ((vi_t q c1))
  · refine am_s_aload_n rfl dc121_0.2.1.2 ?_
    refine am_s_iload_n rfl dc121_0.2.2.1 ?_
    refine am_s_iconst am_cc0 dc121_0.2.2.2 ?_
    refine am_s_iload_n rfl dc121_1.1.1.1 ?_
    refine am_s_virtual true dc121_1.1.1.2 rfl (by decide) rfl hx0 rfl (am_mth_of rfl rfl ?_)
    refine am_s_aload_n rfl dc118_0.1.1.1 ?_
    refine am_s_getR (r := x0 + 3) dc118_0.1.1.2 rfl hx0 rfl (am_r9_3 hp hx0) ?_
    refine am_s_iload_n rfl dc118_0.1.2.1 ?_
    refine am_s_bipush am_cb25 dc118_0.1.2.2 ?_
    refine am_s_imul dc118_0.2.1.1 ?_
    refine am_s_iload_n rfl dc118_0.2.1.2 ?_
    refine am_s_iadd dc118_0.2.2.1 ?_
    refine am_x_iaload (x := I (x0 + 3) (Int32.toNatClampNeg ((x1 * 25) + 0))) dc118_0.2.2.2 (am_h9_3 hx0) ((vi_f q c1).1) rfl rfl ?_
    refine am_s_iload_n rfl dc118_1.1.1.1 ?_
    refine am_s_iushr dc118_1.1.1.2 ?_
    refine am_s_iconst am_cc1 dc118_1.1.2.1 ?_
    refine am_s_iand dc118_1.1.2.2 ?_
    refine am_s_if_eq dc118_1.2.1.1 rfl (fun c2 => ?_) (fun c2 => ?_)
    · refine am_s_iconst am_cc0 dc118_1.2.2.2 ?_
      refine am_s_zreturn dc118_2 rfl (by decide) (am_bkI ?_)
      refine am_s_if_eq dc121_1.1.2.1 rfl (fun _ => ?_) (fun z => absurd z (by decide))
      refine am_s_iinc (ls' := [some (.ref x0), some (.int x1), some (.int (x2 + (-1)))]) am_ccm1 rfl rfl dc121_1.2.1.2 ?_
      refine am_s_goto rfl dc121_1.2.2.1 ?_
      exact (vi_t (vi_f q c1).2 c2)
    · refine am_s_iconst am_cc1 dc118_1.2.1.2 ?_
      refine am_s_goto rfl dc118_1.2.2.1 ?_
      refine am_s_zreturn dc118_2 rfl (by decide) (am_bkI ?_)
      refine am_s_if_eq dc121_1.1.2.1 rfl (fun z => absurd z (by decide)) (fun _ => ?_)
      refine am_s_iload_n rfl dc121_1.1.2.2 ?_
      exact am_s_ireturn dc121_1.2.1.1 rfl ((vi_f (vi_f q c1).2 c2))
-- forget ()V
theorem v123_0 {sc : Option (Nat × (Nat → Int32))} {d k n : Nat} {P : am_O → Prop} {I : am_I} {J : am_J} {Pf : am_R} (hp : am_PF Pf)  (q : (P (.inl none, (am_SH, am_u (am_u I 145 2 0) 145 6 (-1), J, Pf), k, n))) : am_go sc d 123 (0, [some (.ref 145)], [], (am_SH, I, J, Pf), k, n) P := by
  refine am_s_aload_n rfl dc123_0.1.1 ?_
  refine am_s_iconst am_cc0 dc123_0.1.2.1 ?_
  refine am_s_putZ dc123_0.1.2.2 rfl rfl rfl rfl (by decide) ?_
  refine am_s_aload_n rfl dc123_0.2.1.1 ?_
  refine am_s_iconst am_ccm1 dc123_0.2.1.2 ?_
  refine am_s_putI dc123_0.2.2.1 rfl rfl rfl rfl ?_
  exact am_s_return dc123_0.2.2.2 rfl (q)
-- waysOf (III)I
theorem v124_0 {sc : Option (Nat × (Nat → Int32))} {d k n : Nat} {P : am_O → Prop} {I : am_I} {J : am_J} {Pf : am_R} (hp : am_PF Pf) {x1 : Int32} {x2 : Int32} {x3 : Int32} {l4 : Option Value} {l5 : Option Value} {l6 : Option Value} (q : (am_in ((x1 * 25) + x2) 200 = true) ∧ (if ((UInt32.toInt32 (Int32.toUInt32 (I 138 (Int32.toNatClampNeg ((x1 * 25) + x2))) >>> (Int32.toUInt32 x3 &&& Int32.toUInt32 31))) &&& 1) = 0 then (P (.inl (some (.int 0)), (am_SH, I, J, Pf), k, n)) else ∃ r112_0x1 : Nat, (Pf 112 0 = some r112_0x1) ∧ (am_SH[r112_0x1]? = some (.inl 4)) ∧ (am_go sc (d + 1) 124 (30, [some (.ref 145), some (.int x1), some (.int x2), some (.int x3), some (.ref r112_0x1), some (.int 0), some (.int 0)], [], (am_SH, I, J, Pf), k, n) P))) : am_go sc (d + 1) 124 (0, [some (.ref 145), some (.int x1), some (.int x2), some (.int x3), l4, l5, l6], [], (am_SH, I, J, Pf), k, n) P := by
  refine am_s_aload_n rfl dc124_0.1.1.1 ?_
  refine am_s_getR (r := 135) dc124_0.1.1.2 rfl rfl rfl (hp _ _ _ rfl) ?_
  refine am_s_iload_n rfl dc124_0.1.2.1 ?_
  refine am_s_iload_n rfl dc124_0.1.2.2 ?_
  refine am_s_iload_n rfl dc124_0.2.1.1 ?_
  refine am_s_virtual false dc124_0.2.1.2 rfl (by decide) rfl rfl rfl (am_mth_of rfl rfl ?_)
  refine am_s_aload_n rfl dc118_0.1.1.1 ?_
  refine am_s_getR (r := 138) dc118_0.1.1.2 rfl rfl rfl (hp _ _ _ rfl) ?_
  refine am_s_iload_n rfl dc118_0.1.2.1 ?_
  refine am_s_bipush am_cb25 dc118_0.1.2.2 ?_
  refine am_s_imul dc118_0.2.1.1 ?_
  refine am_s_iload_n rfl dc118_0.2.1.2 ?_
  refine am_s_iadd dc118_0.2.2.1 ?_
  refine am_x_iaload (x := I 138 (Int32.toNatClampNeg ((x1 * 25) + x2))) dc118_0.2.2.2 rfl (q.1) rfl rfl ?_
  refine am_s_iload_n rfl dc118_1.1.1.1 ?_
  refine am_s_iushr dc118_1.1.1.2 ?_
  refine am_s_iconst am_cc1 dc118_1.1.2.1 ?_
  refine am_s_iand dc118_1.1.2.2 ?_
  refine am_s_if_eq dc118_1.2.1.1 rfl (fun c1 => ?_) (fun c1 => ?_)
  · refine am_s_iconst am_cc0 dc118_1.2.2.2 ?_
    refine am_s_zreturn dc118_2 rfl (by decide) (am_bkI ?_)
    refine am_s_if_ne dc124_0.2.2.1 rfl (fun z => absurd z (by decide)) (fun _ => ?_)
    refine am_s_iconst am_cc0 dc124_0.2.2.2 ?_
    exact am_s_ireturn dc124_1.1.1.1 rfl ((vi_t q.2 c1))
  · refine am_s_iconst am_cc1 dc118_1.2.1.2 ?_
    refine am_s_goto rfl dc118_1.2.2.1 ?_
    refine am_s_zreturn dc118_2 rfl (by decide) (am_bkI ?_)
    refine am_s_if_ne dc124_0.2.2.1 rfl (fun _ => ?_) (fun z => absurd z (by decide))
    refine am_s_aload_n rfl dc124_1.1.1.2 ?_
    refine am_s_getR (r := 112) dc124_1.1.2.1 rfl rfl rfl (hp _ _ _ rfl) ?_
    obtain ⟨r112_0x1, qx1⟩ := (vi_f q.2 c1)
    refine am_s_getR (r := r112_0x1) dc124_1.1.2.2 rfl rfl rfl (qx1.1) ?_
    refine am_s_astore (ls' := [some (.ref 145), some (.int x1), some (.int x2), some (.int x3), some (.ref r112_0x1), l5, l6]) rfl rfl dc124_1.2.1.1 ?_
    refine am_s_iconst am_cc0 dc124_1.2.1.2 ?_
    refine am_s_istore (ls' := [some (.ref 145), some (.int x1), some (.int x2), some (.int x3), some (.ref r112_0x1), some (.int 0), l6]) rfl rfl dc124_1.2.2.1 ?_
    refine am_s_iconst am_cc0 dc124_1.2.2.2 ?_
    refine am_s_istore (ls' := [some (.ref 145), some (.int x1), some (.int x2), some (.int x3), some (.ref r112_0x1), some (.int 0), some (.int 0)]) rfl rfl dc124_2.1.1.1 ?_
    exact qx1.2.2
theorem v124_30 {sc : Option (Nat × (Nat → Int32))} {d k n : Nat} {P : am_O → Prop} {I : am_I} {J : am_J} {Pf : am_R} (hp : am_PF Pf) {x1 : Int32} {x2 : Int32} {x3 : Int32} {x4 : Nat} (hx4 : am_SH[x4]? = some (.inl 4)) {x5 : Int32} {x6 : Int32} (q : (if (I x4 2) ≤ x6 then (am_go sc d 124 (74, [some (.ref 145), some (.int x1), some (.int x2), some (.int x3), some (.ref x4), some (.int x5), some (.int 0)], [], (am_SH, I, J, Pf), k, n) P) else (am_in x6 20 = true) ∧ (if (I (x4 + 2) (Int32.toNatClampNeg x6)) = x1 then (am_mth d 125 [.ref 145, .int x6, .int x2, .int x3] (am_SH, I, J, Pf) (am_af sc d 124 59 [some (.ref 145), some (.int x1), some (.int x2), some (.int x3), some (.ref x4), some (.int x5), some (.int x6)] [.int x3, .int x2, .int x6, .ref 145, .int x5] [.int x5] (am_SH, I, J, Pf) k n true P)) else (am_go sc d 124 (30, [some (.ref 145), some (.int x1), some (.int x2), some (.int x3), some (.ref x4), some (.int x5), some (.int (x6 + 1))], [], (am_SH, I, J, Pf), k, n) P)))) : am_go sc d 124 (30, [some (.ref 145), some (.int x1), some (.int x2), some (.int x3), some (.ref x4), some (.int x5), some (.int x6)], [], (am_SH, I, J, Pf), k, n) P := by
  refine am_s_iload rfl dc124_2.1.1.2 ?_
  refine am_s_aload rfl dc124_2.1.2.1 ?_
  refine am_x_getI (x := I x4 2) dc124_2.1.2.2 rfl hx4 (Or.inl rfl) rfl ?_
  refine am_s_ic_ge dc124_2.2.1.1 rfl (fun c1 => ?_) (fun c1 => ?_)
  · refine am_s_iconst am_cc0 dc124_4.2.1.2 ?_
    refine am_s_istore (ls' := [some (.ref 145), some (.int x1), some (.int x2), some (.int x3), some (.ref x4), some (.int x5), some (.int 0)]) rfl rfl dc124_4.2.2.1 ?_
    exact (vi_t q c1)
  · refine am_s_aload rfl dc124_2.2.1.2 ?_
    refine am_s_getR (r := x4 + 2) dc124_2.2.2.1 rfl hx4 rfl (am_r4_3 hp hx4) ?_
    refine am_s_iload rfl dc124_2.2.2.2 ?_
    refine am_x_iaload (x := I (x4 + 2) (Int32.toNatClampNeg x6)) dc124_3.1.1.1 (am_h4_3 hx4) ((vi_f q c1).1) rfl rfl ?_
    refine am_s_iload_n rfl dc124_3.1.1.2 ?_
    refine am_s_ic_ne dc124_3.1.2.1 rfl (fun c2 => ?_) (fun c2 => ?_)
    · refine am_s_iinc (ls' := [some (.ref 145), some (.int x1), some (.int x2), some (.int x3), some (.ref x4), some (.int x5), some (.int (x6 + 1))]) am_cc1 rfl rfl dc124_4.1.2.2 ?_
      refine am_s_goto rfl dc124_4.2.1.1 ?_
      exact (vi_f (vi_f q c1).2 c2)
    · refine am_s_iload rfl dc124_3.1.2.2 ?_
      refine am_s_aload_n rfl dc124_3.2.1.1 ?_
      refine am_s_iload rfl dc124_3.2.1.2 ?_
      refine am_s_iload_n rfl dc124_3.2.2.1 ?_
      refine am_s_iload_n rfl dc124_3.2.2.2 ?_
      exact am_s_virtual true dc124_4.1.1.1 rfl (by decide) rfl rfl rfl ((vi_t (vi_f q c1).2 (Decidable.not_not.mp c2)))
theorem v124_74 {sc : Option (Nat × (Nat → Int32))} {d k n : Nat} {P : am_O → Prop} {I : am_I} {J : am_J} {Pf : am_R} (hp : am_PF Pf) {x1 : Int32} {x2 : Int32} {x3 : Int32} {x4 : Nat} (hx4 : am_SH[x4]? = some (.inl 4)) {x5 : Int32} {x6 : Int32} (q : (if (I x4 9) ≤ x6 then (if 9999 < x5 then (P (.inl (some (.int 9999)), (am_SH, I, J, Pf), k, n)) else (P (.inl (some (.int x5)), (am_SH, I, J, Pf), k, n))) else (am_in x6 4 = true) ∧ (if (I (x4 + 8) (Int32.toNatClampNeg x6)) = x1 then (am_in ((x6 * 25) + x2) 100 = true) ∧ (if (I 139 (Int32.toNatClampNeg ((x6 * 25) + x2))) = x3 then (am_go sc (d + 1) 124 (74, [some (.ref 145), some (.int x1), some (.int x2), some (.int x3), some (.ref x4), some (.int (x5 + 1)), some (.int (x6 + 1))], [], (am_SH, I, J, Pf), k, n) P) else (am_go sc (d + 1) 124 (74, [some (.ref 145), some (.int x1), some (.int x2), some (.int x3), some (.ref x4), some (.int x5), some (.int (x6 + 1))], [], (am_SH, I, J, Pf), k, n) P)) else (am_go sc (d + 1) 124 (74, [some (.ref 145), some (.int x1), some (.int x2), some (.int x3), some (.ref x4), some (.int x5), some (.int (x6 + 1))], [], (am_SH, I, J, Pf), k, n) P)))) : am_go sc (d + 1) 124 (74, [some (.ref 145), some (.int x1), some (.int x2), some (.int x3), some (.ref x4), some (.int x5), some (.int x6)], [], (am_SH, I, J, Pf), k, n) P := by
  refine am_s_iload rfl dc124_4.2.2.2 ?_
  refine am_s_aload rfl dc124_5.1.1.1 ?_
  refine am_x_getI (x := I x4 9) dc124_5.1.1.2 rfl hx4 (Or.inl rfl) rfl ?_
  refine am_s_ic_ge dc124_5.1.2.1 rfl (fun c1 => ?_) (fun c1 => ?_)
  · refine am_s_iload rfl dc124_7.2.2.2 ?_
    refine am_s_sipush am_cs9999 dc124_8.1 ?_
    refine am_s_static dc124_8.2.1 rfl rfl rfl (am_mth_of rfl rfl ?_)
    refine am_s_iload_n rfl dc330_0.1.1 ?_
    refine am_s_iload_n rfl dc330_0.1.2.1 ?_
    refine am_s_ic_gt dc330_0.1.2.2 rfl (fun c2 => ?_) (fun c2 => ?_)
    · refine am_s_iload_n rfl dc330_0.2.2.1 ?_
      refine am_s_ireturn dc330_0.2.2.2 rfl (am_bkI ?_)
      exact am_s_ireturn dc124_8.2.2 rfl ((vi_t (vi_t q c1) c2))
    · refine am_s_iload_n rfl dc330_0.2.1.1 ?_
      refine am_s_goto rfl dc330_0.2.1.2 ?_
      refine am_s_ireturn dc330_0.2.2.2 rfl (am_bkI ?_)
      exact am_s_ireturn dc124_8.2.2 rfl ((vi_f (vi_t q c1) c2))
  · refine am_s_aload rfl dc124_5.1.2.2 ?_
    refine am_s_getR (r := x4 + 8) dc124_5.2.1.1 rfl hx4 rfl (am_r4_10 hp hx4) ?_
    refine am_s_iload rfl dc124_5.2.1.2 ?_
    refine am_x_iaload (x := I (x4 + 8) (Int32.toNatClampNeg x6)) dc124_5.2.2.1 (am_h4_10 hx4) ((vi_f q c1).1) rfl rfl ?_
    refine am_s_iload_n rfl dc124_5.2.2.2 ?_
    refine am_s_ic_ne dc124_6.1.1.1 rfl (fun c2 => ?_) (fun c2 => ?_)
    · refine am_s_iinc (ls' := [some (.ref 145), some (.int x1), some (.int x2), some (.int x3), some (.ref x4), some (.int x5), some (.int (x6 + 1))]) am_cc1 rfl rfl dc124_7.2.1.2 ?_
      refine am_s_goto rfl dc124_7.2.2.1 ?_
      exact (vi_f (vi_f q c1).2 c2)
    · refine am_s_aload_n rfl dc124_6.1.1.2 ?_
      refine am_s_getR (r := 135) dc124_6.1.2.1 rfl rfl rfl (hp _ _ _ rfl) ?_
      refine am_s_getR (r := 139) dc124_6.1.2.2 rfl rfl rfl (hp _ _ _ rfl) ?_
      refine am_s_iload rfl dc124_6.2.1.1 ?_
      refine am_s_bipush am_cb25 dc124_6.2.1.2 ?_
      refine am_s_imul dc124_6.2.2.1 ?_
      refine am_s_iload_n rfl dc124_6.2.2.2 ?_
      refine am_s_iadd dc124_7.1.1.1 ?_
      refine am_x_iaload (x := I 139 (Int32.toNatClampNeg ((x6 * 25) + x2))) dc124_7.1.1.2 rfl ((vi_t (vi_f q c1).2 (Decidable.not_not.mp c2)).1) rfl rfl ?_
      refine am_s_iload_n rfl dc124_7.1.2.1 ?_
      refine am_s_ic_ne dc124_7.1.2.2 rfl (fun c3 => ?_) (fun c3 => ?_)
      · refine am_s_iinc (ls' := [some (.ref 145), some (.int x1), some (.int x2), some (.int x3), some (.ref x4), some (.int x5), some (.int (x6 + 1))]) am_cc1 rfl rfl dc124_7.2.1.2 ?_
        refine am_s_goto rfl dc124_7.2.2.1 ?_
        exact (vi_f (vi_t (vi_f q c1).2 (Decidable.not_not.mp c2)).2 c3)
      · refine am_s_iinc (ls' := [some (.ref 145), some (.int x1), some (.int x2), some (.int x3), some (.ref x4), some (.int (x5 + 1)), some (.int x6)]) am_cc1 rfl rfl dc124_7.2.1.1 ?_
        refine am_s_iinc (ls' := [some (.ref 145), some (.int x1), some (.int x2), some (.int x3), some (.ref x4), some (.int (x5 + 1)), some (.int (x6 + 1))]) am_cc1 rfl rfl dc124_7.2.1.2 ?_
        refine am_s_goto rfl dc124_7.2.2.1 ?_
        exact (vi_t (vi_t (vi_f q c1).2 (Decidable.not_not.mp c2)).2 (Decidable.not_not.mp c3))
theorem v124_62 {sc : Option (Nat × (Nat → Int32))} {d k n : Nat} {P : am_O → Prop} {I : am_I} {J : am_J} {Pf : am_R} (hp : am_PF Pf) {x1 : Int32} {x2 : Int32} {x3 : Int32} {x4 : Nat} (hx4 : am_SH[x4]? = some (.inl 4)) {l5 : Option Value} {x6 : Int32} {s0 : Int32} {s1 : Int32} (q : (am_go sc d 124 (30, [some (.ref 145), some (.int x1), some (.int x2), some (.int x3), some (.ref x4), some (.int (s0 + s1)), some (.int (x6 + 1))], [], (am_SH, I, J, Pf), k, n) P)) : am_go sc d 124 (62, [some (.ref 145), some (.int x1), some (.int x2), some (.int x3), some (.ref x4), l5, some (.int x6)], [.int s1, .int s0], (am_SH, I, J, Pf), k, n) P := by
  refine am_s_iadd dc124_4.1.1.2 ?_
  refine am_s_istore (ls' := [some (.ref 145), some (.int x1), some (.int x2), some (.int x3), some (.ref x4), some (.int (s0 + s1)), some (.int x6)]) rfl rfl dc124_4.1.2.1 ?_
  refine am_s_iinc (ls' := [some (.ref 145), some (.int x1), some (.int x2), some (.int x3), some (.ref x4), some (.int (s0 + s1)), some (.int (x6 + 1))]) am_cc1 rfl rfl dc124_4.1.2.2 ?_
  refine am_s_goto rfl dc124_4.2.1.1 ?_
  exact q
-- rowsOf (III)I
theorem v125_0 {sc : Option (Nat × (Nat → Int32))} {d k n : Nat} {P : am_O → Prop} {I : am_I} {J : am_J} {Pf : am_R} (hp : am_PF Pf) {x1 : Int32} {x2 : Int32} {x3 : Int32} {l4 : Option Value} {l5 : Option Value} {l6 : Option Value} {l7 : Option Value} {l8 : Option Value} {l9 : Option Value} (q : ∃ r112_0x1 : Nat, (Pf 112 0 = some r112_0x1) ∧ (am_SH[r112_0x1]? = some (.inl 4)) ∧ (am_mth d 341 [.ref 152, .int 0] (am_SH, I, J, Pf) (am_af sc d 125 14 [some (.ref 145), some (.int x1), some (.int x2), some (.int x3), some (.ref r112_0x1), l5, l6, l7, l8, l9] [.int 0, .ref 152] [] (am_SH, I, J, Pf) k n false P))) : am_go sc d 125 (0, [some (.ref 145), some (.int x1), some (.int x2), some (.int x3), l4, l5, l6, l7, l8, l9], [], (am_SH, I, J, Pf), k, n) P := by
  refine am_s_aload_n rfl dc125_0.1.1.1 ?_
  refine am_s_getR (r := 112) dc125_0.1.1.2 rfl rfl rfl (hp _ _ _ rfl) ?_
  obtain ⟨r112_0x1, qx1⟩ := q
  refine am_s_getR (r := r112_0x1) dc125_0.1.2.1 rfl rfl rfl (qx1.1) ?_
  refine am_s_astore (ls' := [some (.ref 145), some (.int x1), some (.int x2), some (.int x3), some (.ref r112_0x1), l5, l6, l7, l8, l9]) rfl rfl dc125_0.1.2.2 ?_
  refine am_s_aload_n rfl dc125_0.2.1.1 ?_
  refine am_s_getR (r := 152) dc125_0.2.1.2 rfl rfl rfl (hp _ _ _ rfl) ?_
  refine am_s_iconst am_cc0 dc125_0.2.2.1 ?_
  exact am_s_static dc125_0.2.2.2 rfl rfl rfl (qx1.2.2)
theorem v125_27 {sc : Option (Nat × (Nat → Int32))} {d k n : Nat} {P : am_O → Prop} {I : am_I} {J : am_J} {Pf : am_R} (hp : am_PF Pf) {x1 : Int32} {x2 : Int32} {x3 : Int32} {x4 : Nat} (hx4 : am_SH[x4]? = some (.inl 4)) {x5 : Int32} {l6 : Option Value} {l7 : Option Value} {l8 : Option Value} {l9 : Option Value} (q : (am_in x1 20 = true) ∧ (if (I (x4 + 4) (Int32.toNatClampNeg x1)) ≤ x5 then (am_in x3 25 = true) ∧ (P (.inl (some (.int (I 152 (Int32.toNatClampNeg x3)))), (am_SH, I, J, Pf), k, n)) else (am_mth d 341 [.ref 153, .int 0] (am_SH, I, J, Pf) (am_af sc d 125 44 [some (.ref 145), some (.int x1), some (.int x2), some (.int x3), some (.ref x4), some (.int x5), l6, l7, l8, l9] [.int 0, .ref 153] [] (am_SH, I, J, Pf) k n false P)))) : am_go sc d 125 (27, [some (.ref 145), some (.int x1), some (.int x2), some (.int x3), some (.ref x4), some (.int x5), l6, l7, l8, l9], [], (am_SH, I, J, Pf), k, n) P := by
  refine am_s_iload rfl dc125_1.2.2.2 ?_
  refine am_s_aload rfl dc125_2.1.1.1 ?_
  refine am_s_getR (r := x4 + 4) dc125_2.1.1.2 rfl hx4 rfl (am_r4_5 hp hx4) ?_
  refine am_s_iload_n rfl dc125_2.1.2.1 ?_
  refine am_x_iaload (x := I (x4 + 4) (Int32.toNatClampNeg x1)) dc125_2.1.2.2 (am_h4_5 hx4) (q.1) rfl rfl ?_
  refine am_s_ic_ge dc125_2.2.1.1 rfl (fun c1 => ?_) (fun c1 => ?_)
  · refine am_s_aload_n rfl dc125_12.2.2.1 ?_
    refine am_s_getR (r := 152) dc125_12.2.2.2 rfl rfl rfl (hp _ _ _ rfl) ?_
    refine am_s_iload_n rfl dc125_13.1 ?_
    refine am_x_iaload (x := I 152 (Int32.toNatClampNeg x3)) dc125_13.2.1 rfl ((vi_t q.2 c1).1) rfl rfl ?_
    exact am_s_ireturn dc125_13.2.2 rfl ((vi_t q.2 c1).2)
  · refine am_s_aload_n rfl dc125_2.2.1.2 ?_
    refine am_s_getR (r := 153) dc125_2.2.2.1 rfl rfl rfl (hp _ _ _ rfl) ?_
    refine am_s_iconst am_cc0 dc125_2.2.2.2 ?_
    exact am_s_static dc125_3.1.1.1 rfl rfl rfl ((vi_f q.2 c1))
theorem v125_50 {sc : Option (Nat × (Nat → Int32))} {d k n : Nat} {P : am_O → Prop} {I : am_I} {J : am_J} {Pf : am_R} (hp : am_PF Pf) {x1 : Int32} {x2 : Int32} {x3 : Int32} {x4 : Nat} (hx4 : am_SH[x4]? = some (.inl 4)) {x5 : Int32} {x6 : Int32} {l7 : Option Value} {l8 : Option Value} {l9 : Option Value} (q : (if x3 < x6 then (am_go sc d 125 (190, [some (.ref 145), some (.int x1), some (.int x2), some (.int x3), some (.ref x4), some (.int x5), some (.int x6), l7, l8, l9], [.int 25, .int 0, .ref 152, .int 0, .ref 153], (am_SH, I, J, Pf), k, n) P) else (am_in x6 25 = true) ∧ (if (I 152 (Int32.toNatClampNeg x6)) = 0 then (am_go sc d 125 (50, [some (.ref 145), some (.int x1), some (.int x2), some (.int x3), some (.ref x4), some (.int x5), some (.int (x6 + 1)), l7, l8, l9], [], (am_SH, I, J, Pf), k, n) P) else (if x5 ≤ 0 then (am_go sc d 125 (97, [some (.ref 145), some (.int x1), some (.int x2), some (.int x3), some (.ref x4), some (.int x5), some (.int x6), l7, l8, l9], [], (am_SH, I, J, Pf), k, n) P) else (am_in x1 20 = true) ∧ (if (I (x4 + 3) (Int32.toNatClampNeg x1)) = 0 then (am_go sc d 125 (97, [some (.ref 145), some (.int x1), some (.int x2), some (.int x3), some (.ref x4), some (.int x5), some (.int x6), l7, l8, l9], [], (am_SH, I, J, Pf), k, n) P) else (am_in x6 25 = true) ∧ (am_mth d 16 [.ref 112, .ref 135, .int ((x1 * 4) + x5), .int (I 137 (Int32.toNatClampNeg x6)), .ref 138] (am_SH, I, J, Pf) (am_af sc d 125 124 [some (.ref 145), some (.int x1), some (.int x2), some (.int x3), some (.ref x4), some (.int x5), some (.int x6), some (.int (I 137 (Int32.toNatClampNeg x6))), l8, l9] [.ref 138, .int (I 137 (Int32.toNatClampNeg x6)), .int ((x1 * 4) + x5), .ref 135, .ref 112] [] (am_SH, I, J, Pf) k n false P))))))) : am_go sc d 125 (50, [some (.ref 145), some (.int x1), some (.int x2), some (.int x3), some (.ref x4), some (.int x5), some (.int x6), l7, l8, l9], [], (am_SH, I, J, Pf), k, n) P := by
  refine am_s_iload rfl dc125_3.1.2.2 ?_
  refine am_s_iload_n rfl dc125_3.2.1.1 ?_
  refine am_s_ic_gt dc125_3.2.1.2 rfl (fun c1 => ?_) (fun c1 => ?_)
  · refine am_s_aload_n rfl dc125_11.2.1.1 ?_
    refine am_s_getR (r := 153) dc125_11.2.1.2 rfl rfl rfl (hp _ _ _ rfl) ?_
    refine am_s_iconst am_cc0 dc125_11.2.2.1 ?_
    refine am_s_aload_n rfl dc125_11.2.2.2 ?_
    refine am_s_getR (r := 152) dc125_12.1.1.1 rfl rfl rfl (hp _ _ _ rfl) ?_
    refine am_s_iconst am_cc0 dc125_12.1.1.2 ?_
    refine am_s_bipush am_cb25 dc125_12.1.2.1 ?_
    exact (vi_t q c1)
  · refine am_s_aload_n rfl dc125_3.2.2.1 ?_
    refine am_s_getR (r := 152) dc125_3.2.2.2 rfl rfl rfl (hp _ _ _ rfl) ?_
    refine am_s_iload rfl dc125_4.1.1.1 ?_
    refine am_x_iaload (x := I 152 (Int32.toNatClampNeg x6)) dc125_4.1.1.2 rfl ((vi_f q c1).1) rfl rfl ?_
    refine am_s_if_ne dc125_4.1.2.1 rfl (fun c2 => ?_) (fun c2 => ?_)
    · refine am_s_iload rfl dc125_4.2.1.1 ?_
      refine am_s_if_le dc125_4.2.1.2 rfl (fun c3 => ?_) (fun c3 => ?_)
      · exact (vi_t (vi_f (vi_f q c1).2 c2) c3)
      · refine am_s_aload rfl dc125_4.2.2.1 ?_
        refine am_s_getR (r := x4 + 3) dc125_4.2.2.2 rfl hx4 rfl (am_r4_4 hp hx4) ?_
        refine am_s_iload_n rfl dc125_5.1.1.1 ?_
        refine am_x_baload (x := I (x4 + 3) (Int32.toNatClampNeg x1)) dc125_5.1.1.2 (am_h4_4 hx4) ((vi_f (vi_f (vi_f q c1).2 c2) c3).1) rfl rfl ?_
        refine am_s_if_eq dc125_5.1.2.1 rfl (fun c4 => ?_) (fun c4 => ?_)
        · exact (vi_t (vi_f (vi_f (vi_f q c1).2 c2) c3).2 c4)
        · refine am_s_aload_n rfl dc125_5.1.2.2 ?_
          refine am_s_getR (r := 135) dc125_5.2.1.1 rfl rfl rfl (hp _ _ _ rfl) ?_
          refine am_s_getR (r := 137) dc125_5.2.1.2 rfl rfl rfl (hp _ _ _ rfl) ?_
          refine am_s_iload rfl dc125_5.2.2.1 ?_
          refine am_x_iaload (x := I 137 (Int32.toNatClampNeg x6)) dc125_5.2.2.2 rfl ((vi_f (vi_f (vi_f (vi_f q c1).2 c2) c3).2 c4).1) rfl rfl ?_
          refine am_s_goto rfl dc125_6.1.1.1 ?_
          refine am_s_istore (ls' := [some (.ref 145), some (.int x1), some (.int x2), some (.int x3), some (.ref x4), some (.int x5), some (.int x6), some (.int (I 137 (Int32.toNatClampNeg x6))), l8, l9]) rfl rfl dc125_6.1.2.1 ?_
          refine am_s_aload_n rfl dc125_6.1.2.2 ?_
          refine am_s_getR (r := 112) dc125_6.2.1.1 rfl rfl rfl (hp _ _ _ rfl) ?_
          refine am_s_aload_n rfl dc125_6.2.1.2 ?_
          refine am_s_getR (r := 135) dc125_6.2.2.1 rfl rfl rfl (hp _ _ _ rfl) ?_
          refine am_s_iload_n rfl dc125_6.2.2.2 ?_
          refine am_s_iconst am_cc4 dc125_7.1.1.1 ?_
          refine am_s_imul dc125_7.1.1.2 ?_
          refine am_s_iload rfl dc125_7.1.2.1 ?_
          refine am_s_iadd dc125_7.1.2.2 ?_
          refine am_s_iload rfl dc125_7.2.1.1 ?_
          refine am_s_aload_n rfl dc125_7.2.1.2 ?_
          refine am_s_getR (r := 135) dc125_7.2.2.1 rfl rfl rfl (hp _ _ _ rfl) ?_
          refine am_s_getR (r := 138) dc125_7.2.2.2 rfl rfl rfl (hp _ _ _ rfl) ?_
          exact am_s_virtual false dc125_8.1.1.1 rfl (by decide) rfl rfl rfl ((vi_f (vi_f (vi_f (vi_f q c1).2 c2) c3).2 c4).2)
    · refine am_s_goto rfl dc125_4.1.2.2 ?_
      refine am_s_iinc (ls' := [some (.ref 145), some (.int x1), some (.int x2), some (.int x3), some (.ref x4), some (.int x5), some (.int (x6 + 1)), l7, l8, l9]) am_cc1 rfl rfl dc125_11.1.2.1 ?_
      refine am_s_goto rfl dc125_11.1.2.2 ?_
      exact (vi_t (vi_f q c1).2 (Decidable.not_not.mp c2))
theorem v125_97 {sc : Option (Nat × (Nat → Int32))} {d k n : Nat} {P : am_O → Prop} {I : am_I} {J : am_J} {Pf : am_R} (hp : am_PF Pf) {x1 : Int32} {x2 : Int32} {x3 : Int32} {x4 : Nat} (hx4 : am_SH[x4]? = some (.inl 4)) {x5 : Int32} {x6 : Int32} {l7 : Option Value} {l8 : Option Value} {l9 : Option Value} (q : (am_mth d 16 [.ref 112, .ref 135, .int ((x1 * 4) + x5), .int x6, .ref 138] (am_SH, I, J, Pf) (am_af sc d 125 124 [some (.ref 145), some (.int x1), some (.int x2), some (.int x3), some (.ref x4), some (.int x5), some (.int x6), some (.int x6), l8, l9] [.ref 138, .int x6, .int ((x1 * 4) + x5), .ref 135, .ref 112] [] (am_SH, I, J, Pf) k n false P))) : am_go sc d 125 (97, [some (.ref 145), some (.int x1), some (.int x2), some (.int x3), some (.ref x4), some (.int x5), some (.int x6), l7, l8, l9], [], (am_SH, I, J, Pf), k, n) P := by
  refine am_s_iload rfl dc125_6.1.1.2 ?_
  refine am_s_istore (ls' := [some (.ref 145), some (.int x1), some (.int x2), some (.int x3), some (.ref x4), some (.int x5), some (.int x6), some (.int x6), l8, l9]) rfl rfl dc125_6.1.2.1 ?_
  refine am_s_aload_n rfl dc125_6.1.2.2 ?_
  refine am_s_getR (r := 112) dc125_6.2.1.1 rfl rfl rfl (hp _ _ _ rfl) ?_
  refine am_s_aload_n rfl dc125_6.2.1.2 ?_
  refine am_s_getR (r := 135) dc125_6.2.2.1 rfl rfl rfl (hp _ _ _ rfl) ?_
  refine am_s_iload_n rfl dc125_6.2.2.2 ?_
  refine am_s_iconst am_cc4 dc125_7.1.1.1 ?_
  refine am_s_imul dc125_7.1.1.2 ?_
  refine am_s_iload rfl dc125_7.1.2.1 ?_
  refine am_s_iadd dc125_7.1.2.2 ?_
  refine am_s_iload rfl dc125_7.2.1.1 ?_
  refine am_s_aload_n rfl dc125_7.2.1.2 ?_
  refine am_s_getR (r := 135) dc125_7.2.2.1 rfl rfl rfl (hp _ _ _ rfl) ?_
  refine am_s_getR (r := 138) dc125_7.2.2.2 rfl rfl rfl (hp _ _ _ rfl) ?_
  exact am_s_virtual false dc125_8.1.1.1 rfl (by decide) rfl rfl rfl (q)
theorem v125_133 {sc : Option (Nat × (Nat → Int32))} {d k n : Nat} {P : am_O → Prop} {I : am_I} {J : am_J} {Pf : am_R} (hp : am_PF Pf) {x1 : Int32} {x2 : Int32} {x3 : Int32} {x4 : Nat} (hx4 : am_SH[x4]? = some (.inl 4)) {x5 : Int32} {x6 : Int32} {l7 : Option Value} {x8 : Int32} {x9 : Int32} (q : (if x3 < x9 then (am_go sc d 125 (50, [some (.ref 145), some (.int x1), some (.int x2), some (.int x3), some (.ref x4), some (.int x5), some (.int (x6 + 1)), l7, some (.int x8), some (.int x9)], [], (am_SH, I, J, Pf), k, n) P) else (if ((UInt32.toInt32 (Int32.toUInt32 x8 >>> (Int32.toUInt32 x9 &&& Int32.toUInt32 31))) &&& 1) = 0 then (am_go sc d 125 (133, [some (.ref 145), some (.int x1), some (.int x2), some (.int x3), some (.ref x4), some (.int x5), some (.int x6), l7, some (.int x8), some (.int (x9 + 1))], [], (am_SH, I, J, Pf), k, n) P) else (am_in x9 25 = true) ∧ (am_in x6 25 = true) ∧ (am_in x9 25 = true) ∧ (am_go sc d 125 (133, [some (.ref 145), some (.int x1), some (.int x2), some (.int x3), some (.ref x4), some (.int x5), some (.int x6), l7, some (.int x8), some (.int (x9 + 1))], [], (am_SH, am_u I 153 (Int32.toNatClampNeg x9) ((I 153 (Int32.toNatClampNeg x9)) + (I 152 (Int32.toNatClampNeg x6))), J, Pf), k, n) P)))) : am_go sc d 125 (133, [some (.ref 145), some (.int x1), some (.int x2), some (.int x3), some (.ref x4), some (.int x5), some (.int x6), l7, some (.int x8), some (.int x9)], [], (am_SH, I, J, Pf), k, n) P := by
  refine am_s_iload rfl dc125_8.2.1.1 ?_
  refine am_s_iload_n rfl dc125_8.2.1.2 ?_
  refine am_s_ic_gt dc125_8.2.2.1 rfl (fun c1 => ?_) (fun c1 => ?_)
  · refine am_s_iinc (ls' := [some (.ref 145), some (.int x1), some (.int x2), some (.int x3), some (.ref x4), some (.int x5), some (.int (x6 + 1)), l7, some (.int x8), some (.int x9)]) am_cc1 rfl rfl dc125_11.1.2.1 ?_
    refine am_s_goto rfl dc125_11.1.2.2 ?_
    exact (vi_t q c1)
  · refine am_s_iload rfl dc125_8.2.2.2 ?_
    refine am_s_iload rfl dc125_9.1.1.1 ?_
    refine am_s_iushr dc125_9.1.1.2 ?_
    refine am_s_iconst am_cc1 dc125_9.1.2.1 ?_
    refine am_s_iand dc125_9.1.2.2 ?_
    refine am_s_if_eq dc125_9.2.1.1 rfl (fun c2 => ?_) (fun c2 => ?_)
    · refine am_s_iinc (ls' := [some (.ref 145), some (.int x1), some (.int x2), some (.int x3), some (.ref x4), some (.int x5), some (.int x6), l7, some (.int x8), some (.int (x9 + 1))]) am_cc1 rfl rfl dc125_11.1.1.1 ?_
      refine am_s_goto rfl dc125_11.1.1.2 ?_
      exact (vi_t (vi_f q c1) c2)
    · refine am_s_aload_n rfl dc125_9.2.1.2 ?_
      refine am_s_getR (r := 153) dc125_9.2.2.1 rfl rfl rfl (hp _ _ _ rfl) ?_
      refine am_s_iload rfl dc125_9.2.2.2 ?_
      refine am_s_dup2 rfl rfl dc125_10.1.1.1 ?_
      refine am_x_iaload (x := I 153 (Int32.toNatClampNeg x9)) dc125_10.1.1.2 rfl ((vi_f (vi_f q c1) c2).1) rfl rfl ?_
      refine am_s_aload_n rfl dc125_10.1.2.1 ?_
      refine am_s_getR (r := 152) dc125_10.1.2.2 rfl rfl rfl (hp _ _ _ rfl) ?_
      refine am_s_iload rfl dc125_10.2.1.1 ?_
      refine am_x_iaload (x := I 152 (Int32.toNatClampNeg x6)) dc125_10.2.1.2 rfl ((vi_f (vi_f q c1) c2).2.1) rfl rfl ?_
      refine am_s_iadd dc125_10.2.2.1 ?_
      refine am_s_iastore dc125_10.2.2.2 rfl ((vi_f (vi_f q c1) c2).2.2.1) rfl ?_
      refine am_s_iinc (ls' := [some (.ref 145), some (.int x1), some (.int x2), some (.int x3), some (.ref x4), some (.int x5), some (.int x6), l7, some (.int x8), some (.int (x9 + 1))]) am_cc1 rfl rfl dc125_11.1.1.1 ?_
      refine am_s_goto rfl dc125_11.1.1.2 ?_
      exact (vi_f (vi_f q c1) c2).2.2.2
theorem v125_17 {sc : Option (Nat × (Nat → Int32))} {d k n : Nat} {P : am_O → Prop} {I : am_I} {J : am_J} {Pf : am_R} (hp : am_PF Pf) {x1 : Int32} {x2 : Int32} {x3 : Int32} {x4 : Nat} (hx4 : am_SH[x4]? = some (.inl 4)) {l5 : Option Value} {l6 : Option Value} {l7 : Option Value} {l8 : Option Value} {l9 : Option Value} (q : (am_in x2 25 = true) ∧ (am_go sc d 125 (27, [some (.ref 145), some (.int x1), some (.int x2), some (.int x3), some (.ref x4), some (.int 0), l6, l7, l8, l9], [], (am_SH, am_u I 152 (Int32.toNatClampNeg x2) 1, J, Pf), k, n) P)) : am_go sc d 125 (17, [some (.ref 145), some (.int x1), some (.int x2), some (.int x3), some (.ref x4), l5, l6, l7, l8, l9], [], (am_SH, I, J, Pf), k, n) P := by
  refine am_s_aload_n rfl dc125_1.1.1.1 ?_
  refine am_s_getR (r := 152) dc125_1.1.1.2 rfl rfl rfl (hp _ _ _ rfl) ?_
  refine am_s_iload_n rfl dc125_1.1.2.1 ?_
  refine am_s_iconst am_cc1 dc125_1.1.2.2 ?_
  refine am_s_iastore dc125_1.2.1.1 rfl (q.1) rfl ?_
  refine am_s_iconst am_cc0 dc125_1.2.1.2 ?_
  refine am_s_istore (ls' := [some (.ref 145), some (.int x1), some (.int x2), some (.int x3), some (.ref x4), some (.int 0), l6, l7, l8, l9]) rfl rfl dc125_1.2.2.1 ?_
  exact q.2
theorem v125_47 {sc : Option (Nat × (Nat → Int32))} {d k n : Nat} {P : am_O → Prop} {I : am_I} {J : am_J} {Pf : am_R} (hp : am_PF Pf) {x1 : Int32} {x2 : Int32} {x3 : Int32} {x4 : Nat} (hx4 : am_SH[x4]? = some (.inl 4)) {x5 : Int32} {l6 : Option Value} {l7 : Option Value} {l8 : Option Value} {l9 : Option Value} (q : (am_go sc d 125 (50, [some (.ref 145), some (.int x1), some (.int x2), some (.int x3), some (.ref x4), some (.int x5), some (.int x2), l7, l8, l9], [], (am_SH, I, J, Pf), k, n) P)) : am_go sc d 125 (47, [some (.ref 145), some (.int x1), some (.int x2), some (.int x3), some (.ref x4), some (.int x5), l6, l7, l8, l9], [], (am_SH, I, J, Pf), k, n) P := by
  refine am_s_iload_n rfl dc125_3.1.1.2 ?_
  refine am_s_istore (ls' := [some (.ref 145), some (.int x1), some (.int x2), some (.int x3), some (.ref x4), some (.int x5), some (.int x2), l7, l8, l9]) rfl rfl dc125_3.1.2.1 ?_
  exact q
theorem v125_127 {sc : Option (Nat × (Nat → Int32))} {d k n : Nat} {P : am_O → Prop} {I : am_I} {J : am_J} {Pf : am_R} (hp : am_PF Pf) {x1 : Int32} {x2 : Int32} {x3 : Int32} {x4 : Nat} (hx4 : am_SH[x4]? = some (.inl 4)) {x5 : Int32} {x6 : Int32} {x7 : Int32} {l8 : Option Value} {l9 : Option Value} {s0 : Int32} (q : (am_go sc d 125 (133, [some (.ref 145), some (.int x1), some (.int x2), some (.int x3), some (.ref x4), some (.int x5), some (.int x6), some (.int x7), some (.int s0), some (.int x7)], [], (am_SH, I, J, Pf), k, n) P)) : am_go sc d 125 (127, [some (.ref 145), some (.int x1), some (.int x2), some (.int x3), some (.ref x4), some (.int x5), some (.int x6), some (.int x7), l8, l9], [.int s0], (am_SH, I, J, Pf), k, n) P := by
  refine am_s_istore (ls' := [some (.ref 145), some (.int x1), some (.int x2), some (.int x3), some (.ref x4), some (.int x5), some (.int x6), some (.int x7), some (.int s0), l9]) rfl rfl dc125_8.1.1.2 ?_
  refine am_s_iload rfl dc125_8.1.2.1 ?_
  refine am_s_istore (ls' := [some (.ref 145), some (.int x1), some (.int x2), some (.int x3), some (.ref x4), some (.int x5), some (.int x6), some (.int x7), some (.int s0), some (.int x7)]) rfl rfl dc125_8.1.2.2 ?_
  exact q
-- heightOf (III)I
theorem v126_0 {sc : Option (Nat × (Nat → Int32))} {d k n : Nat} {P : am_O → Prop} {I : am_I} {J : am_J} {Pf : am_R} (hp : am_PF Pf) {x1 : Int32} {x2 : Int32} {x3 : Int32} (q : (am_in ((x1 * 25) + x2) 200 = true) ∧ (if ((UInt32.toInt32 (Int32.toUInt32 (I 138 (Int32.toNatClampNeg ((x1 * 25) + x2))) >>> (Int32.toUInt32 x3 &&& Int32.toUInt32 31))) &&& 1) = 0 then (P (.inl (some (.int (-1))), (am_SH, I, J, Pf), k, n)) else (am_mth (d + 1) 127 [.ref 145] (am_SH, I, J, Pf) (am_af sc (d + 1) 126 16 [some (.ref 145), some (.int x1), some (.int x2), some (.int x3)] [.ref 145] [] (am_SH, I, J, Pf) k n true P)))) : am_go sc (d + 1) 126 (0, [some (.ref 145), some (.int x1), some (.int x2), some (.int x3)], [], (am_SH, I, J, Pf), k, n) P := by
  refine am_s_aload_n rfl dc126_0.1.1.1 ?_
  refine am_s_getR (r := 135) dc126_0.1.1.2 rfl rfl rfl (hp _ _ _ rfl) ?_
  refine am_s_iload_n rfl dc126_0.1.2.1 ?_
  refine am_s_iload_n rfl dc126_0.1.2.2 ?_
  refine am_s_iload_n rfl dc126_0.2.1.1 ?_
  refine am_s_virtual false dc126_0.2.1.2 rfl (by decide) rfl rfl rfl (am_mth_of rfl rfl ?_)
  refine am_s_aload_n rfl dc118_0.1.1.1 ?_
  refine am_s_getR (r := 138) dc118_0.1.1.2 rfl rfl rfl (hp _ _ _ rfl) ?_
  refine am_s_iload_n rfl dc118_0.1.2.1 ?_
  refine am_s_bipush am_cb25 dc118_0.1.2.2 ?_
  refine am_s_imul dc118_0.2.1.1 ?_
  refine am_s_iload_n rfl dc118_0.2.1.2 ?_
  refine am_s_iadd dc118_0.2.2.1 ?_
  refine am_x_iaload (x := I 138 (Int32.toNatClampNeg ((x1 * 25) + x2))) dc118_0.2.2.2 rfl (q.1) rfl rfl ?_
  refine am_s_iload_n rfl dc118_1.1.1.1 ?_
  refine am_s_iushr dc118_1.1.1.2 ?_
  refine am_s_iconst am_cc1 dc118_1.1.2.1 ?_
  refine am_s_iand dc118_1.1.2.2 ?_
  refine am_s_if_eq dc118_1.2.1.1 rfl (fun c1 => ?_) (fun c1 => ?_)
  · refine am_s_iconst am_cc0 dc118_1.2.2.2 ?_
    refine am_s_zreturn dc118_2 rfl (by decide) (am_bkI ?_)
    refine am_s_if_ne dc126_0.2.2.1 rfl (fun z => absurd z (by decide)) (fun _ => ?_)
    refine am_s_iconst am_ccm1 dc126_0.2.2.2 ?_
    exact am_s_ireturn dc126_1.1.1.1 rfl ((vi_t q.2 c1))
  · refine am_s_iconst am_cc1 dc118_1.2.1.2 ?_
    refine am_s_goto rfl dc118_1.2.2.1 ?_
    refine am_s_zreturn dc118_2 rfl (by decide) (am_bkI ?_)
    refine am_s_if_ne dc126_0.2.2.1 rfl (fun _ => ?_) (fun z => absurd z (by decide))
    refine am_s_aload_n rfl dc126_1.1.1.2 ?_
    exact am_s_virtual true dc126_1.1.2.1 rfl (by decide) rfl rfl rfl ((vi_f q.2 c1))
theorem v126_19 {sc : Option (Nat × (Nat → Int32))} {d k n : Nat} {P : am_O → Prop} {I : am_I} {J : am_J} {Pf : am_R} (hp : am_PF Pf) {x1 : Int32} {x2 : Int32} {x3 : Int32} (q : (am_in ((((x1 * 25) + x2) * 25) + x3) 5000 = true) ∧ (P (.inl (some (.int (I 146 (Int32.toNatClampNeg ((((x1 * 25) + x2) * 25) + x3))))), (am_SH, I, J, Pf), k, n))) : am_go sc d 126 (19, [some (.ref 145), some (.int x1), some (.int x2), some (.int x3)], [], (am_SH, I, J, Pf), k, n) P := by
  refine am_s_aload_n rfl dc126_1.1.2.2 ?_
  refine am_s_getR (r := 146) dc126_1.2.1.1 rfl rfl rfl (hp _ _ _ rfl) ?_
  refine am_s_iload_n rfl dc126_1.2.1.2 ?_
  refine am_s_bipush am_cb25 dc126_1.2.2.1 ?_
  refine am_s_imul dc126_1.2.2.2 ?_
  refine am_s_iload_n rfl dc126_2.1.1.1 ?_
  refine am_s_iadd dc126_2.1.1.2 ?_
  refine am_s_bipush am_cb25 dc126_2.1.2.1 ?_
  refine am_s_imul dc126_2.1.2.2 ?_
  refine am_s_iload_n rfl dc126_2.2.1.1 ?_
  refine am_s_iadd dc126_2.2.1.2 ?_
  refine am_x_iaload (x := I 146 (Int32.toNatClampNeg ((((x1 * 25) + x2) * 25) + x3))) dc126_2.2.2.1 rfl (q.1) rfl rfl ?_
  exact am_s_ireturn dc126_2.2.2.2 rfl (q.2)
-- measure ()V
theorem v127_0 {sc : Option (Nat × (Nat → Int32))} {d k n : Nat} {P : am_O → Prop} {I : am_I} {J : am_J} {Pf : am_R} (hp : am_PF Pf) {l1 : Option Value} {l2 : Option Value} {l3 : Option Value} {l4 : Option Value} {l5 : Option Value} {l6 : Option Value} (q : (if (I 145 2) = 0 then (am_mth d 341 [.ref 147, .int 0] (am_SH, am_u I 145 2 1, J, Pf) (am_af sc d 127 18 [some (.ref 145), l1, l2, l3, l4, l5, l6] [.int 0, .ref 147] [] (am_SH, am_u I 145 2 1, J, Pf) k n false P)) else (P (.inl none, (am_SH, I, J, Pf), k, n)))) : am_go sc d 127 (0, [some (.ref 145), l1, l2, l3, l4, l5, l6], [], (am_SH, I, J, Pf), k, n) P := by
  refine am_s_aload_n rfl dc127_0.1.1.1 ?_
  refine am_x_getI (x := I 145 2) dc127_0.1.1.2 rfl rfl (Or.inr rfl) rfl ?_
  refine am_s_if_eq dc127_0.1.2.1 rfl (fun c1 => ?_) (fun c1 => ?_)
  · refine am_s_aload_n rfl dc127_0.2.1.1 ?_
    refine am_s_iconst am_cc1 dc127_0.2.1.2 ?_
    refine am_s_putZ dc127_0.2.2.1 rfl rfl rfl rfl (by decide) ?_
    refine am_s_aload_n rfl dc127_0.2.2.2 ?_
    refine am_s_getR (r := 147) dc127_1.1.1.1 rfl rfl rfl (hp _ _ _ rfl) ?_
    refine am_s_iconst am_cc0 dc127_1.1.1.2 ?_
    exact am_s_static dc127_1.1.2.1 rfl rfl rfl ((vi_t q c1))
  · exact am_s_return dc127_0.1.2.2 rfl ((vi_f q c1))
theorem v127_25 {sc : Option (Nat × (Nat → Int32))} {d k n : Nat} {P : am_O → Prop} {I : am_I} {J : am_J} {Pf : am_R} (hp : am_PF Pf) {x1 : Int32} {x2 : Int32} {l3 : Option Value} {l4 : Option Value} {l5 : Option Value} {l6 : Option Value} (q : (if 5000 < x2 then (P (.inl none, (am_SH, I, J, Pf), k, n)) else (if x1 = 0 then (P (.inl none, (am_SH, I, J, Pf), k, n)) else (am_go sc d 127 (42, [some (.ref 145), some (.int 0), some (.int x2), some (.int 0), l4, l5, l6], [], (am_SH, I, J, Pf), k, n) P)))) : am_go sc d 127 (25, [some (.ref 145), some (.int x1), some (.int x2), l3, l4, l5, l6], [], (am_SH, I, J, Pf), k, n) P := by
  refine am_s_iload_n rfl dc127_1.2.2.2 ?_
  refine am_s_aload_n rfl dc127_2.1.1.1 ?_
  refine am_s_getR (r := 146) dc127_2.1.1.2 rfl rfl rfl (hp _ _ _ rfl) ?_
  refine am_s_len (x := 5000) dc127_2.1.2.1 rfl rfl (by decide +kernel) ?_
  refine am_s_ic_gt dc127_2.1.2.2 rfl (fun c1 => ?_) (fun c1 => ?_)
  · exact am_s_return dc127_13.2.2 rfl ((vi_t q c1))
  · refine am_s_iload_n rfl dc127_2.2.1.1 ?_
    refine am_s_if_eq dc127_2.2.1.2 rfl (fun c2 => ?_) (fun c2 => ?_)
    · exact am_s_return dc127_13.2.2 rfl ((vi_t (vi_f q c1) c2))
    · refine am_s_iconst am_cc0 dc127_2.2.2.1 ?_
      refine am_s_istore_n (ls' := [some (.ref 145), some (.int 0), some (.int x2), l3, l4, l5, l6]) rfl rfl dc127_2.2.2.2 ?_
      refine am_s_iconst am_cc0 dc127_3.1.1.1 ?_
      refine am_s_istore_n (ls' := [some (.ref 145), some (.int 0), some (.int x2), some (.int 0), l4, l5, l6]) rfl rfl dc127_3.1.1.2 ?_
      exact (vi_f (vi_f q c1) c2)
theorem v127_42 {sc : Option (Nat × (Nat → Int32))} {d k n : Nat} {P : am_O → Prop} {I : am_I} {J : am_J} {Pf : am_R} (hp : am_PF Pf) {x1 : Int32} {x2 : Int32} {x3 : Int32} {l4 : Option Value} {l5 : Option Value} {l6 : Option Value} (q : (if 8 ≤ x3 then (am_go sc d 127 (146, [some (.ref 145), some (.int x1), some (.int x2), some (.int 0), l4, l5, l6], [], (am_SH, I, J, Pf), k, n) P) else (am_go sc d 127 (51, [some (.ref 145), some (.int x1), some (.int x2), some (.int x3), some (.int 0), l5, l6], [], (am_SH, I, J, Pf), k, n) P))) : am_go sc d 127 (42, [some (.ref 145), some (.int x1), some (.int x2), some (.int x3), l4, l5, l6], [], (am_SH, I, J, Pf), k, n) P := by
  refine am_s_iload_n rfl dc127_3.1.2.1 ?_
  refine am_s_bipush am_cb8 dc127_3.1.2.2 ?_
  refine am_s_ic_ge dc127_3.2.1.1 rfl (fun c1 => ?_) (fun c1 => ?_)
  · refine am_s_iconst am_cc0 dc127_10.1.1.1 ?_
    refine am_s_istore_n (ls' := [some (.ref 145), some (.int x1), some (.int x2), some (.int 0), l4, l5, l6]) rfl rfl dc127_10.1.1.2 ?_
    exact (vi_t q c1)
  · refine am_s_iconst am_cc0 dc127_3.2.1.2 ?_
    refine am_s_istore (ls' := [some (.ref 145), some (.int x1), some (.int x2), some (.int x3), some (.int 0), l5, l6]) rfl rfl dc127_3.2.2.1 ?_
    exact (vi_f q c1)
theorem v127_51 {sc : Option (Nat × (Nat → Int32))} {d k n : Nat} {P : am_O → Prop} {I : am_I} {J : am_J} {Pf : am_R} (hp : am_PF Pf) {x1 : Int32} {x2 : Int32} {x3 : Int32} {x4 : Int32} {l5 : Option Value} {l6 : Option Value} (q : (if (I 135 1) < x4 then (am_go sc d 127 (42, [some (.ref 145), some (.int x1), some (.int x2), some (.int (x3 + 1)), some (.int x4), l5, l6], [], (am_SH, I, J, Pf), k, n) P) else (am_in ((x3 * 25) + x4) 200 = true) ∧ (am_in ((x3 * 25) + x4) 200 = true) ∧ (if ((I 138 (Int32.toNatClampNeg ((x3 * 25) + x4))) &&& ((I 147 (Int32.toNatClampNeg ((x3 * 25) + x4))) ^^^ (-1))) = 0 then (am_in ((x3 * 25) + x4) 200 = true) ∧ (am_in ((x3 * 25) + x4) 200 = true) ∧ (am_go sc d 127 (51, [some (.ref 145), some (.int x1), some (.int x2), some (.int x3), some (.int (x4 + 1)), some (.int ((x3 * 25) + x4)), some (.int ((I 138 (Int32.toNatClampNeg ((x3 * 25) + x4))) &&& ((I 147 (Int32.toNatClampNeg ((x3 * 25) + x4))) ^^^ (-1))))], [], (am_SH, am_u I 148 (Int32.toNatClampNeg ((x3 * 25) + x4)) 0, J, Pf), k, n) P) else (am_mth d 128 [.ref 145, .int x3, .int x4] (am_SH, I, J, Pf) (am_af sc d 127 115 [some (.ref 145), some (.int x1), some (.int x2), some (.int x3), some (.int x4), some (.int ((x3 * 25) + x4)), some (.int ((I 138 (Int32.toNatClampNeg ((x3 * 25) + x4))) &&& ((I 147 (Int32.toNatClampNeg ((x3 * 25) + x4))) ^^^ (-1))))] [.int x4, .int x3, .ref 145, .int ((I 138 (Int32.toNatClampNeg ((x3 * 25) + x4))) &&& ((I 147 (Int32.toNatClampNeg ((x3 * 25) + x4))) ^^^ (-1))), .int ((x3 * 25) + x4), .ref 148] [.int ((I 138 (Int32.toNatClampNeg ((x3 * 25) + x4))) &&& ((I 147 (Int32.toNatClampNeg ((x3 * 25) + x4))) ^^^ (-1))), .int ((x3 * 25) + x4), .ref 148] (am_SH, I, J, Pf) k n true P))))) : am_go sc d 127 (51, [some (.ref 145), some (.int x1), some (.int x2), some (.int x3), some (.int x4), l5, l6], [], (am_SH, I, J, Pf), k, n) P := by
  refine am_s_iload rfl dc127_3.2.2.2 ?_
  refine am_s_aload_n rfl dc127_4.1.1.1 ?_
  refine am_s_getR (r := 135) dc127_4.1.1.2 rfl rfl rfl (hp _ _ _ rfl) ?_
  refine am_x_getI (x := I 135 1) dc127_4.1.2.1 rfl rfl (Or.inl rfl) rfl ?_
  refine am_s_ic_gt dc127_4.1.2.2 rfl (fun c1 => ?_) (fun c1 => ?_)
  · refine am_s_iinc (ls' := [some (.ref 145), some (.int x1), some (.int x2), some (.int (x3 + 1)), some (.int x4), l5, l6]) am_cc1 rfl rfl dc127_9.2.2.1 ?_
    refine am_s_goto rfl dc127_9.2.2.2 ?_
    exact (vi_t q c1)
  · refine am_s_iload_n rfl dc127_4.2.1.1 ?_
    refine am_s_bipush am_cb25 dc127_4.2.1.2 ?_
    refine am_s_imul dc127_4.2.2.1 ?_
    refine am_s_iload rfl dc127_4.2.2.2 ?_
    refine am_s_iadd dc127_5.1.1.1 ?_
    refine am_s_istore (ls' := [some (.ref 145), some (.int x1), some (.int x2), some (.int x3), some (.int x4), some (.int ((x3 * 25) + x4)), l6]) rfl rfl dc127_5.1.1.2 ?_
    refine am_s_aload_n rfl dc127_5.1.2.1 ?_
    refine am_s_getR (r := 135) dc127_5.1.2.2 rfl rfl rfl (hp _ _ _ rfl) ?_
    refine am_s_getR (r := 138) dc127_5.2.1.1 rfl rfl rfl (hp _ _ _ rfl) ?_
    refine am_s_iload rfl dc127_5.2.1.2 ?_
    refine am_x_iaload (x := I 138 (Int32.toNatClampNeg ((x3 * 25) + x4))) dc127_5.2.2.1 rfl ((vi_f q c1).1) rfl rfl ?_
    refine am_s_aload_n rfl dc127_5.2.2.2 ?_
    refine am_s_getR (r := 147) dc127_6.1.1.1 rfl rfl rfl (hp _ _ _ rfl) ?_
    refine am_s_iload rfl dc127_6.1.1.2 ?_
    refine am_x_iaload (x := I 147 (Int32.toNatClampNeg ((x3 * 25) + x4))) dc127_6.1.2.1 rfl ((vi_f q c1).2.1) rfl rfl ?_
    refine am_s_iconst am_ccm1 dc127_6.1.2.2 ?_
    refine am_s_ixor dc127_6.2.1.1 ?_
    refine am_s_iand dc127_6.2.1.2 ?_
    refine am_s_istore (ls' := [some (.ref 145), some (.int x1), some (.int x2), some (.int x3), some (.int x4), some (.int ((x3 * 25) + x4)), some (.int ((I 138 (Int32.toNatClampNeg ((x3 * 25) + x4))) &&& ((I 147 (Int32.toNatClampNeg ((x3 * 25) + x4))) ^^^ (-1))))]) rfl rfl dc127_6.2.2.1 ?_
    refine am_s_aload_n rfl dc127_6.2.2.2 ?_
    refine am_s_getR (r := 148) dc127_7.1.1.1 rfl rfl rfl (hp _ _ _ rfl) ?_
    refine am_s_iload rfl dc127_7.1.1.2 ?_
    refine am_s_iload rfl dc127_7.1.2.1 ?_
    refine am_s_if_ne dc127_7.1.2.2 rfl (fun c2 => ?_) (fun c2 => ?_)
    · refine am_s_iload rfl dc127_7.2.2.1 ?_
      refine am_s_aload_n rfl dc127_7.2.2.2 ?_
      refine am_s_iload_n rfl dc127_8.1.1.1 ?_
      refine am_s_iload rfl dc127_8.1.1.2 ?_
      exact am_s_virtual true dc127_8.1.2.1 rfl (by decide) rfl rfl rfl ((vi_f (vi_f q c1).2.2 c2))
    · refine am_s_iconst am_cc0 dc127_7.2.1.1 ?_
      refine am_s_goto rfl dc127_7.2.1.2 ?_
      refine am_s_iastore dc127_8.2.1.1 rfl ((vi_t (vi_f q c1).2.2 (Decidable.not_not.mp c2)).1) rfl ?_
      refine am_s_aload_n rfl dc127_8.2.1.2 ?_
      refine am_s_getR (r := 148) dc127_8.2.2.1 rfl rfl rfl (hp _ _ _ rfl) ?_
      refine am_s_iload rfl dc127_8.2.2.2 ?_
      refine am_x_iaload (x := 0) dc127_9.1.1.1 rfl ((vi_t (vi_f q c1).2.2 (Decidable.not_not.mp c2)).2.1) rfl (by simp [am_u]) ?_
      refine am_s_if_eq dc127_9.1.1.2 rfl (fun _ => ?_) (fun z => absurd z (by decide))
      refine am_s_iinc (ls' := [some (.ref 145), some (.int x1), some (.int x2), some (.int x3), some (.int (x4 + 1)), some (.int ((x3 * 25) + x4)), some (.int ((I 138 (Int32.toNatClampNeg ((x3 * 25) + x4))) &&& ((I 147 (Int32.toNatClampNeg ((x3 * 25) + x4))) ^^^ (-1))))]) am_cc1 rfl rfl dc127_9.2.1.1 ?_
      refine am_s_goto rfl dc127_9.2.1.2 ?_
      exact (vi_t (vi_f q c1).2.2 (Decidable.not_not.mp c2)).2.2
theorem v127_146 {sc : Option (Nat × (Nat → Int32))} {d k n : Nat} {P : am_O → Prop} {I : am_I} {J : am_J} {Pf : am_R} (hp : am_PF Pf) {x1 : Int32} {x2 : Int32} {x3 : Int32} {l4 : Option Value} {l5 : Option Value} {l6 : Option Value} (q : (if 8 ≤ x3 then (am_go sc d 127 (25, [some (.ref 145), some (.int x1), some (.int (x2 + 1)), some (.int x3), l4, l5, l6], [], (am_SH, I, J, Pf), k, n) P) else (am_go sc d 127 (155, [some (.ref 145), some (.int x1), some (.int x2), some (.int x3), some (.int 0), l5, l6], [], (am_SH, I, J, Pf), k, n) P))) : am_go sc d 127 (146, [some (.ref 145), some (.int x1), some (.int x2), some (.int x3), l4, l5, l6], [], (am_SH, I, J, Pf), k, n) P := by
  refine am_s_iload_n rfl dc127_10.1.2.1 ?_
  refine am_s_bipush am_cb8 dc127_10.1.2.2 ?_
  refine am_s_ic_ge dc127_10.2.1.1 rfl (fun c1 => ?_) (fun c1 => ?_)
  · refine am_s_iinc (ls' := [some (.ref 145), some (.int x1), some (.int (x2 + 1)), some (.int x3), l4, l5, l6]) am_cc1 rfl rfl dc127_13.1 ?_
    refine am_s_goto rfl dc127_13.2.1 ?_
    exact (vi_t q c1)
  · refine am_s_iconst am_cc0 dc127_10.2.1.2 ?_
    refine am_s_istore (ls' := [some (.ref 145), some (.int x1), some (.int x2), some (.int x3), some (.int 0), l5, l6]) rfl rfl dc127_10.2.2.1 ?_
    exact (vi_f q c1)
theorem v127_155 {sc : Option (Nat × (Nat → Int32))} {d k n : Nat} {P : am_O → Prop} {I : am_I} {J : am_J} {Pf : am_R} (hp : am_PF Pf) {x1 : Int32} {x2 : Int32} {x3 : Int32} {x4 : Int32} {l5 : Option Value} {l6 : Option Value} (q : (if (I 135 1) < x4 then (am_go sc d 127 (146, [some (.ref 145), some (.int x1), some (.int x2), some (.int (x3 + 1)), some (.int x4), l5, l6], [], (am_SH, I, J, Pf), k, n) P) else (am_mth d 129 [.ref 145, .int ((x3 * 25) + x4), .int x2] (am_SH, I, J, Pf) (am_af sc d 127 176 [some (.ref 145), some (.int x1), some (.int x2), some (.int x3), some (.int x4), l5, l6] [.int x2, .int ((x3 * 25) + x4), .ref 145] [] (am_SH, I, J, Pf) k n true P)))) : am_go sc d 127 (155, [some (.ref 145), some (.int x1), some (.int x2), some (.int x3), some (.int x4), l5, l6], [], (am_SH, I, J, Pf), k, n) P := by
  refine am_s_iload rfl dc127_10.2.2.2 ?_
  refine am_s_aload_n rfl dc127_11.1.1.1 ?_
  refine am_s_getR (r := 135) dc127_11.1.1.2 rfl rfl rfl (hp _ _ _ rfl) ?_
  refine am_x_getI (x := I 135 1) dc127_11.1.2.1 rfl rfl (Or.inl rfl) rfl ?_
  refine am_s_ic_gt dc127_11.1.2.2 rfl (fun c1 => ?_) (fun c1 => ?_)
  · refine am_s_iinc (ls' := [some (.ref 145), some (.int x1), some (.int x2), some (.int (x3 + 1)), some (.int x4), l5, l6]) am_cc1 rfl rfl dc127_12.2.2.1 ?_
    refine am_s_goto rfl dc127_12.2.2.2 ?_
    exact (vi_t q c1)
  · refine am_s_aload_n rfl dc127_11.2.1.1 ?_
    refine am_s_iload_n rfl dc127_11.2.1.2 ?_
    refine am_s_bipush am_cb25 dc127_11.2.2.1 ?_
    refine am_s_imul dc127_11.2.2.2 ?_
    refine am_s_iload rfl dc127_12.1.1.1 ?_
    refine am_s_iadd dc127_12.1.1.2 ?_
    refine am_s_iload_n rfl dc127_12.1.2.1 ?_
    exact am_s_virtual true dc127_12.1.2.2 rfl (by decide) rfl rfl rfl ((vi_f q c1))
theorem v127_21 {sc : Option (Nat × (Nat → Int32))} {d k n : Nat} {P : am_O → Prop} {I : am_I} {J : am_J} {Pf : am_R} (hp : am_PF Pf) {l1 : Option Value} {l2 : Option Value} {l3 : Option Value} {l4 : Option Value} {l5 : Option Value} {l6 : Option Value} (q : (am_go sc d 127 (25, [some (.ref 145), some (.int 1), some (.int 1), l3, l4, l5, l6], [], (am_SH, I, J, Pf), k, n) P)) : am_go sc d 127 (21, [some (.ref 145), l1, l2, l3, l4, l5, l6], [], (am_SH, I, J, Pf), k, n) P := by
  refine am_s_iconst am_cc1 dc127_1.1.2.2 ?_
  refine am_s_istore_n (ls' := [some (.ref 145), some (.int 1), l2, l3, l4, l5, l6]) rfl rfl dc127_1.2.1.1 ?_
  refine am_s_iconst am_cc1 dc127_1.2.1.2 ?_
  refine am_s_istore_n (ls' := [some (.ref 145), some (.int 1), some (.int 1), l3, l4, l5, l6]) rfl rfl dc127_1.2.2.1 ?_
  exact q
theorem v127_118 {sc : Option (Nat × (Nat → Int32))} {d k n : Nat} {P : am_O → Prop} {I : am_I} {J : am_J} {Pf : am_R} (hp : am_PF Pf) {x1 : Int32} {x2 : Int32} {x3 : Int32} {x4 : Int32} {x5 : Int32} {l6 : Option Value} {s1 : Int32} {s2 : Int32} {s3 : Int32} (q : (am_in s1 200 = true) ∧ (am_in x5 200 = true) ∧ (if ((am_u I 148 (Int32.toNatClampNeg s1) (s2 &&& s3)) 148 (Int32.toNatClampNeg x5)) = 0 then (am_go sc d 127 (51, [some (.ref 145), some (.int x1), some (.int x2), some (.int x3), some (.int (x4 + 1)), some (.int x5), l6], [], (am_SH, am_u I 148 (Int32.toNatClampNeg s1) (s2 &&& s3), J, Pf), k, n) P) else (am_go sc d 127 (51, [some (.ref 145), some (.int 1), some (.int x2), some (.int x3), some (.int (x4 + 1)), some (.int x5), l6], [], (am_SH, am_u I 148 (Int32.toNatClampNeg s1) (s2 &&& s3), J, Pf), k, n) P))) : am_go sc d 127 (118, [some (.ref 145), some (.int x1), some (.int x2), some (.int x3), some (.int x4), some (.int x5), l6], [.int s3, .int s2, .int s1, .ref 148], (am_SH, I, J, Pf), k, n) P := by
  refine am_s_iand dc127_8.1.2.2 ?_
  refine am_s_iastore dc127_8.2.1.1 rfl (q.1) rfl ?_
  refine am_s_aload_n rfl dc127_8.2.1.2 ?_
  refine am_s_getR (r := 148) dc127_8.2.2.1 rfl rfl rfl (hp _ _ _ rfl) ?_
  refine am_s_iload rfl dc127_8.2.2.2 ?_
  refine am_x_iaload (x := (am_u I 148 (Int32.toNatClampNeg s1) (s2 &&& s3)) 148 (Int32.toNatClampNeg x5)) dc127_9.1.1.1 rfl (q.2.1) rfl rfl ?_
  refine am_s_if_eq dc127_9.1.1.2 rfl (fun c1 => ?_) (fun c1 => ?_)
  · refine am_s_iinc (ls' := [some (.ref 145), some (.int x1), some (.int x2), some (.int x3), some (.int (x4 + 1)), some (.int x5), l6]) am_cc1 rfl rfl dc127_9.2.1.1 ?_
    refine am_s_goto rfl dc127_9.2.1.2 ?_
    exact (vi_t q.2.2 c1)
  · refine am_s_iconst am_cc1 dc127_9.1.2.1 ?_
    refine am_s_istore_n (ls' := [some (.ref 145), some (.int 1), some (.int x2), some (.int x3), some (.int x4), some (.int x5), l6]) rfl rfl dc127_9.1.2.2 ?_
    refine am_s_iinc (ls' := [some (.ref 145), some (.int 1), some (.int x2), some (.int x3), some (.int (x4 + 1)), some (.int x5), l6]) am_cc1 rfl rfl dc127_9.2.1.1 ?_
    refine am_s_goto rfl dc127_9.2.1.2 ?_
    exact (vi_f q.2.2 c1)
theorem v127_179 {sc : Option (Nat × (Nat → Int32))} {d k n : Nat} {P : am_O → Prop} {I : am_I} {J : am_J} {Pf : am_R} (hp : am_PF Pf) {x1 : Int32} {x2 : Int32} {x3 : Int32} {x4 : Int32} {l5 : Option Value} {l6 : Option Value} (q : (am_go sc d 127 (155, [some (.ref 145), some (.int x1), some (.int x2), some (.int x3), some (.int (x4 + 1)), l5, l6], [], (am_SH, I, J, Pf), k, n) P)) : am_go sc d 127 (179, [some (.ref 145), some (.int x1), some (.int x2), some (.int x3), some (.int x4), l5, l6], [], (am_SH, I, J, Pf), k, n) P := by
  refine am_s_iinc (ls' := [some (.ref 145), some (.int x1), some (.int x2), some (.int x3), some (.int (x4 + 1)), l5, l6]) am_cc1 rfl rfl dc127_12.2.1.1 ?_
  refine am_s_goto rfl dc127_12.2.1.2 ?_
  exact q
-- endsBelow (II)I
theorem v128_0 {sc : Option (Nat × (Nat → Int32))} {d k n : Nat} {P : am_O → Prop} {I : am_I} {J : am_J} {Pf : am_R} (hp : am_PF Pf) {x1 : Int32} {x2 : Int32} {l3 : Option Value} {l4 : Option Value} {l5 : Option Value} {l6 : Option Value} (q : ∃ r112_0x1 : Nat, (Pf 112 0 = some r112_0x1) ∧ (am_SH[r112_0x1]? = some (.inl 4)) ∧ (am_go sc d 128 (14, [some (.ref 145), some (.int x1), some (.int x2), some (.ref r112_0x1), some (.int 0), some (.int 0), l6], [], (am_SH, I, J, Pf), k, n) P)) : am_go sc d 128 (0, [some (.ref 145), some (.int x1), some (.int x2), l3, l4, l5, l6], [], (am_SH, I, J, Pf), k, n) P := by
  refine am_s_aload_n rfl dc128_0.1.1.1 ?_
  refine am_s_getR (r := 112) dc128_0.1.1.2 rfl rfl rfl (hp _ _ _ rfl) ?_
  obtain ⟨r112_0x1, qx1⟩ := q
  refine am_s_getR (r := r112_0x1) dc128_0.1.2.1 rfl rfl rfl (qx1.1) ?_
  refine am_s_astore_n (ls' := [some (.ref 145), some (.int x1), some (.int x2), some (.ref r112_0x1), l4, l5, l6]) rfl rfl dc128_0.1.2.2 ?_
  refine am_s_iconst am_cc0 dc128_0.2.1.1 ?_
  refine am_s_istore (ls' := [some (.ref 145), some (.int x1), some (.int x2), some (.ref r112_0x1), some (.int 0), l5, l6]) rfl rfl dc128_0.2.1.2 ?_
  refine am_s_iconst am_cc0 dc128_0.2.2.1 ?_
  refine am_s_istore (ls' := [some (.ref 145), some (.int x1), some (.int x2), some (.ref r112_0x1), some (.int 0), some (.int 0), l6]) rfl rfl dc128_0.2.2.2 ?_
  exact qx1.2.2
theorem v128_14 {sc : Option (Nat × (Nat → Int32))} {d k n : Nat} {P : am_O → Prop} {I : am_I} {J : am_J} {Pf : am_R} (hp : am_PF Pf) {x1 : Int32} {x2 : Int32} {x3 : Nat} (hx3 : am_SH[x3]? = some (.inl 4)) {x4 : Int32} {x5 : Int32} {l6 : Option Value} (q : (if (I x3 2) ≤ x5 then (am_go sc d 128 (66, [some (.ref 145), some (.int x1), some (.int x2), some (.ref x3), some (.int x4), some (.int 0), l6], [], (am_SH, I, J, Pf), k, n) P) else (am_in x5 20 = true) ∧ (if (I (x3 + 2) (Int32.toNatClampNeg x5)) = x1 then (am_mth d 15 [.ref 112, .ref 135, .int x5, .int x2, .ref 147] (am_SH, I, J, Pf) (am_af sc d 128 51 [some (.ref 145), some (.int x1), some (.int x2), some (.ref x3), some (.int x4), some (.int x5), l6] [.ref 147, .int x2, .int x5, .ref 135, .ref 112, .int x4] [.int x4] (am_SH, I, J, Pf) k n false P)) else (am_go sc d 128 (14, [some (.ref 145), some (.int x1), some (.int x2), some (.ref x3), some (.int x4), some (.int (x5 + 1)), l6], [], (am_SH, I, J, Pf), k, n) P)))) : am_go sc d 128 (14, [some (.ref 145), some (.int x1), some (.int x2), some (.ref x3), some (.int x4), some (.int x5), l6], [], (am_SH, I, J, Pf), k, n) P := by
  refine am_s_iload rfl dc128_1.1.1.1 ?_
  refine am_s_aload_n rfl dc128_1.1.1.2 ?_
  refine am_x_getI (x := I x3 2) dc128_1.1.2.1 rfl hx3 (Or.inl rfl) rfl ?_
  refine am_s_ic_ge dc128_1.1.2.2 rfl (fun c1 => ?_) (fun c1 => ?_)
  · refine am_s_iconst am_cc0 dc128_4.1.1.1 ?_
    refine am_s_istore (ls' := [some (.ref 145), some (.int x1), some (.int x2), some (.ref x3), some (.int x4), some (.int 0), l6]) rfl rfl dc128_4.1.1.2 ?_
    exact (vi_t q c1)
  · refine am_s_aload_n rfl dc128_1.2.1.1 ?_
    refine am_s_getR (r := x3 + 2) dc128_1.2.1.2 rfl hx3 rfl (am_r4_3 hp hx3) ?_
    refine am_s_iload rfl dc128_1.2.2.1 ?_
    refine am_x_iaload (x := I (x3 + 2) (Int32.toNatClampNeg x5)) dc128_1.2.2.2 (am_h4_3 hx3) ((vi_f q c1).1) rfl rfl ?_
    refine am_s_iload_n rfl dc128_2.1.1.1 ?_
    refine am_s_ic_ne dc128_2.1.1.2 rfl (fun c2 => ?_) (fun c2 => ?_)
    · refine am_s_iinc (ls' := [some (.ref 145), some (.int x1), some (.int x2), some (.ref x3), some (.int x4), some (.int (x5 + 1)), l6]) am_cc1 rfl rfl dc128_3.2.2.1 ?_
      refine am_s_goto rfl dc128_3.2.2.2 ?_
      exact (vi_f (vi_f q c1).2 c2)
    · refine am_s_iload rfl dc128_2.1.2.1 ?_
      refine am_s_aload_n rfl dc128_2.1.2.2 ?_
      refine am_s_getR (r := 112) dc128_2.2.1.1 rfl rfl rfl (hp _ _ _ rfl) ?_
      refine am_s_aload_n rfl dc128_2.2.1.2 ?_
      refine am_s_getR (r := 135) dc128_2.2.2.1 rfl rfl rfl (hp _ _ _ rfl) ?_
      refine am_s_iload rfl dc128_2.2.2.2 ?_
      refine am_s_iload_n rfl dc128_3.1.1.1 ?_
      refine am_s_aload_n rfl dc128_3.1.1.2 ?_
      refine am_s_getR (r := 147) dc128_3.1.2.1 rfl rfl rfl (hp _ _ _ rfl) ?_
      exact am_s_virtual false dc128_3.1.2.2 rfl (by decide) rfl rfl rfl ((vi_t (vi_f q c1).2 (Decidable.not_not.mp c2)))
theorem v128_66 {sc : Option (Nat × (Nat → Int32))} {d k n : Nat} {P : am_O → Prop} {I : am_I} {J : am_J} {Pf : am_R} (hp : am_PF Pf) {x1 : Int32} {x2 : Int32} {x3 : Nat} (hx3 : am_SH[x3]? = some (.inl 4)) {x4 : Int32} {x5 : Int32} {l6 : Option Value} (q : (if (I x3 9) ≤ x5 then (P (.inl (some (.int x4)), (am_SH, I, J, Pf), k, n)) else (am_in ((x5 * 25) + x2) 100 = true) ∧ (am_in x5 4 = true) ∧ (if (I (x3 + 8) (Int32.toNatClampNeg x5)) = x1 then (if (I 139 (Int32.toNatClampNeg ((x5 * 25) + x2))) = (-1) then (am_go sc d 128 (66, [some (.ref 145), some (.int x1), some (.int x2), some (.ref x3), some (.int x4), some (.int (x5 + 1)), some (.int (I 139 (Int32.toNatClampNeg ((x5 * 25) + x2))))], [], (am_SH, I, J, Pf), k, n) P) else (am_go sc d 128 (66, [some (.ref 145), some (.int x1), some (.int x2), some (.ref x3), some (.int (x4 ||| ((1 : Int32) <<< ((I 139 (Int32.toNatClampNeg ((x5 * 25) + x2))) &&& 31)))), some (.int (x5 + 1)), some (.int (I 139 (Int32.toNatClampNeg ((x5 * 25) + x2))))], [], (am_SH, I, J, Pf), k, n) P)) else (am_go sc d 128 (66, [some (.ref 145), some (.int x1), some (.int x2), some (.ref x3), some (.int x4), some (.int (x5 + 1)), some (.int (I 139 (Int32.toNatClampNeg ((x5 * 25) + x2))))], [], (am_SH, I, J, Pf), k, n) P)))) : am_go sc d 128 (66, [some (.ref 145), some (.int x1), some (.int x2), some (.ref x3), some (.int x4), some (.int x5), l6], [], (am_SH, I, J, Pf), k, n) P := by
  refine am_s_iload rfl dc128_4.1.2.1 ?_
  refine am_s_aload_n rfl dc128_4.1.2.2 ?_
  refine am_x_getI (x := I x3 9) dc128_4.2.1.1 rfl hx3 (Or.inl rfl) rfl ?_
  refine am_s_ic_ge dc128_4.2.1.2 rfl (fun c1 => ?_) (fun c1 => ?_)
  · refine am_s_iload rfl dc128_8.2.1 ?_
    exact am_s_ireturn dc128_8.2.2 rfl ((vi_t q c1))
  · refine am_s_aload_n rfl dc128_4.2.2.1 ?_
    refine am_s_getR (r := 135) dc128_4.2.2.2 rfl rfl rfl (hp _ _ _ rfl) ?_
    refine am_s_getR (r := 139) dc128_5.1.1.1 rfl rfl rfl (hp _ _ _ rfl) ?_
    refine am_s_iload rfl dc128_5.1.1.2 ?_
    refine am_s_bipush am_cb25 dc128_5.1.2.1 ?_
    refine am_s_imul dc128_5.1.2.2 ?_
    refine am_s_iload_n rfl dc128_5.2.1.1 ?_
    refine am_s_iadd dc128_5.2.1.2 ?_
    refine am_x_iaload (x := I 139 (Int32.toNatClampNeg ((x5 * 25) + x2))) dc128_5.2.2.1 rfl ((vi_f q c1).1) rfl rfl ?_
    refine am_s_istore (ls' := [some (.ref 145), some (.int x1), some (.int x2), some (.ref x3), some (.int x4), some (.int x5), some (.int (I 139 (Int32.toNatClampNeg ((x5 * 25) + x2))))]) rfl rfl dc128_5.2.2.2 ?_
    refine am_s_aload_n rfl dc128_6.1.1.1 ?_
    refine am_s_getR (r := x3 + 8) dc128_6.1.1.2 rfl hx3 rfl (am_r4_10 hp hx3) ?_
    refine am_s_iload rfl dc128_6.1.2.1 ?_
    refine am_x_iaload (x := I (x3 + 8) (Int32.toNatClampNeg x5)) dc128_6.1.2.2 (am_h4_10 hx3) ((vi_f q c1).2.1) rfl rfl ?_
    refine am_s_iload_n rfl dc128_6.2.1.1 ?_
    refine am_s_ic_ne dc128_6.2.1.2 rfl (fun c2 => ?_) (fun c2 => ?_)
    · refine am_s_iinc (ls' := [some (.ref 145), some (.int x1), some (.int x2), some (.ref x3), some (.int x4), some (.int (x5 + 1)), some (.int (I 139 (Int32.toNatClampNeg ((x5 * 25) + x2))))]) am_cc1 rfl rfl dc128_7.2.2.2 ?_
      refine am_s_goto rfl dc128_8.1 ?_
      exact (vi_f (vi_f q c1).2.2 c2)
    · refine am_s_iload rfl dc128_6.2.2.1 ?_
      refine am_s_iconst am_ccm1 dc128_6.2.2.2 ?_
      refine am_s_ic_eq dc128_7.1.1.1 rfl (fun c3 => ?_) (fun c3 => ?_)
      · refine am_s_iinc (ls' := [some (.ref 145), some (.int x1), some (.int x2), some (.ref x3), some (.int x4), some (.int (x5 + 1)), some (.int (I 139 (Int32.toNatClampNeg ((x5 * 25) + x2))))]) am_cc1 rfl rfl dc128_7.2.2.2 ?_
        refine am_s_goto rfl dc128_8.1 ?_
        exact (vi_t (vi_t (vi_f q c1).2.2 (Decidable.not_not.mp c2)) c3)
      · refine am_s_iload rfl dc128_7.1.1.2 ?_
        refine am_s_iconst am_cc1 dc128_7.1.2.1 ?_
        refine am_s_iload rfl dc128_7.1.2.2 ?_
        refine am_s_ishl dc128_7.2.1.1 ?_
        refine am_s_ior dc128_7.2.1.2 ?_
        refine am_s_istore (ls' := [some (.ref 145), some (.int x1), some (.int x2), some (.ref x3), some (.int (x4 ||| ((1 : Int32) <<< ((I 139 (Int32.toNatClampNeg ((x5 * 25) + x2))) &&& 31)))), some (.int x5), some (.int (I 139 (Int32.toNatClampNeg ((x5 * 25) + x2))))]) rfl rfl dc128_7.2.2.1 ?_
        refine am_s_iinc (ls' := [some (.ref 145), some (.int x1), some (.int x2), some (.ref x3), some (.int (x4 ||| ((1 : Int32) <<< ((I 139 (Int32.toNatClampNeg ((x5 * 25) + x2))) &&& 31)))), some (.int (x5 + 1)), some (.int (I 139 (Int32.toNatClampNeg ((x5 * 25) + x2))))]) am_cc1 rfl rfl dc128_7.2.2.2 ?_
        refine am_s_goto rfl dc128_8.1 ?_
        exact (vi_f (vi_t (vi_f q c1).2.2 (Decidable.not_not.mp c2)) c3)
theorem v128_54 {sc : Option (Nat × (Nat → Int32))} {d k n : Nat} {P : am_O → Prop} {I : am_I} {J : am_J} {Pf : am_R} (hp : am_PF Pf) {x1 : Int32} {x2 : Int32} {x3 : Nat} (hx3 : am_SH[x3]? = some (.inl 4)) {l4 : Option Value} {x5 : Int32} {l6 : Option Value} {s0 : Int32} {s1 : Int32} (q : (am_go sc d 128 (14, [some (.ref 145), some (.int x1), some (.int x2), some (.ref x3), some (.int (s0 ||| s1)), some (.int (x5 + 1)), l6], [], (am_SH, I, J, Pf), k, n) P)) : am_go sc d 128 (54, [some (.ref 145), some (.int x1), some (.int x2), some (.ref x3), l4, some (.int x5), l6], [.int s1, .int s0], (am_SH, I, J, Pf), k, n) P := by
  refine am_s_ior dc128_3.2.1.1 ?_
  refine am_s_istore (ls' := [some (.ref 145), some (.int x1), some (.int x2), some (.ref x3), some (.int (s0 ||| s1)), some (.int x5), l6]) rfl rfl dc128_3.2.1.2 ?_
  refine am_s_iinc (ls' := [some (.ref 145), some (.int x1), some (.int x2), some (.ref x3), some (.int (s0 ||| s1)), some (.int (x5 + 1)), l6]) am_cc1 rfl rfl dc128_3.2.2.1 ?_
  refine am_s_goto rfl dc128_3.2.2.2 ?_
  exact q
-- setHeights (II)V
theorem v129_0 {sc : Option (Nat × (Nat → Int32))} {d k n : Nat} {P : am_O → Prop} {I : am_I} {J : am_J} {Pf : am_R} (hp : am_PF Pf) {x1 : Int32} {x2 : Int32} {l3 : Option Value} (q : (am_in x1 200 = true) ∧ (if (I 148 (Int32.toNatClampNeg x1)) = 0 then (P (.inl none, (am_SH, I, J, Pf), k, n)) else (am_go sc d 129 (12, [some (.ref 145), some (.int x1), some (.int x2), some (.int 0)], [], (am_SH, I, J, Pf), k, n) P))) : am_go sc d 129 (0, [some (.ref 145), some (.int x1), some (.int x2), l3], [], (am_SH, I, J, Pf), k, n) P := by
  refine am_s_aload_n rfl dc129_0.1.1.1 ?_
  refine am_s_getR (r := 148) dc129_0.1.1.2 rfl rfl rfl (hp _ _ _ rfl) ?_
  refine am_s_iload_n rfl dc129_0.1.2.1 ?_
  refine am_x_iaload (x := I 148 (Int32.toNatClampNeg x1)) dc129_0.1.2.2 rfl (q.1) rfl rfl ?_
  refine am_s_if_ne dc129_0.2.1.1 rfl (fun c1 => ?_) (fun c1 => ?_)
  · refine am_s_iconst am_cc0 dc129_0.2.2.1 ?_
    refine am_s_istore_n (ls' := [some (.ref 145), some (.int x1), some (.int x2), some (.int 0)]) rfl rfl dc129_0.2.2.2 ?_
    exact (vi_f q.2 c1)
  · exact am_s_return dc129_0.2.1.2 rfl ((vi_t q.2 (Decidable.not_not.mp c1)))
theorem v129_12 {sc : Option (Nat × (Nat → Int32))} {d k n : Nat} {P : am_O → Prop} {I : am_I} {J : am_J} {Pf : am_R} (hp : am_PF Pf) {x1 : Int32} {x2 : Int32} {x3 : Int32} (q : (if (I 135 1) < x3 then (am_in x1 200 = true) ∧ (am_in x1 200 = true) ∧ (am_in x1 200 = true) ∧ (P (.inl none, (am_SH, am_u I 147 (Int32.toNatClampNeg x1) ((I 147 (Int32.toNatClampNeg x1)) ||| (I 148 (Int32.toNatClampNeg x1))), J, Pf), k, n)) else (am_in x1 200 = true) ∧ (if ((UInt32.toInt32 (Int32.toUInt32 (I 148 (Int32.toNatClampNeg x1)) >>> (Int32.toUInt32 x3 &&& Int32.toUInt32 31))) &&& 1) = 0 then (am_go sc d 129 (12, [some (.ref 145), some (.int x1), some (.int x2), some (.int (x3 + 1))], [], (am_SH, I, J, Pf), k, n) P) else (am_in ((x1 * 25) + x3) 5000 = true) ∧ (am_go sc d 129 (12, [some (.ref 145), some (.int x1), some (.int x2), some (.int (x3 + 1))], [], (am_SH, am_u I 146 (Int32.toNatClampNeg ((x1 * 25) + x3)) x2, J, Pf), k, n) P)))) : am_go sc d 129 (12, [some (.ref 145), some (.int x1), some (.int x2), some (.int x3)], [], (am_SH, I, J, Pf), k, n) P := by
  refine am_s_iload_n rfl dc129_1.1.1.1 ?_
  refine am_s_aload_n rfl dc129_1.1.1.2 ?_
  refine am_s_getR (r := 135) dc129_1.1.2.1 rfl rfl rfl (hp _ _ _ rfl) ?_
  refine am_x_getI (x := I 135 1) dc129_1.1.2.2 rfl rfl (Or.inl rfl) rfl ?_
  refine am_s_ic_gt dc129_1.2.1.1 rfl (fun c1 => ?_) (fun c1 => ?_)
  · refine am_s_aload_n rfl dc129_4.1.1.2 ?_
    refine am_s_getR (r := 147) dc129_4.1.2.1 rfl rfl rfl (hp _ _ _ rfl) ?_
    refine am_s_iload_n rfl dc129_4.1.2.2 ?_
    refine am_s_dup2 rfl rfl dc129_4.2.1.1 ?_
    refine am_x_iaload (x := I 147 (Int32.toNatClampNeg x1)) dc129_4.2.1.2 rfl ((vi_t q c1).1) rfl rfl ?_
    refine am_s_aload_n rfl dc129_4.2.2.1 ?_
    refine am_s_getR (r := 148) dc129_4.2.2.2 rfl rfl rfl (hp _ _ _ rfl) ?_
    refine am_s_iload_n rfl dc129_5.1.1 ?_
    refine am_x_iaload (x := I 148 (Int32.toNatClampNeg x1)) dc129_5.1.2 rfl ((vi_t q c1).2.1) rfl rfl ?_
    refine am_s_ior dc129_5.2.1 ?_
    refine am_s_iastore dc129_5.2.2.1 rfl ((vi_t q c1).2.2.1) rfl ?_
    exact am_s_return dc129_5.2.2.2 rfl ((vi_t q c1).2.2.2)
  · refine am_s_aload_n rfl dc129_1.2.1.2 ?_
    refine am_s_getR (r := 148) dc129_1.2.2.1 rfl rfl rfl (hp _ _ _ rfl) ?_
    refine am_s_iload_n rfl dc129_1.2.2.2 ?_
    refine am_x_iaload (x := I 148 (Int32.toNatClampNeg x1)) dc129_2.1.1.1 rfl ((vi_f q c1).1) rfl rfl ?_
    refine am_s_iload_n rfl dc129_2.1.1.2 ?_
    refine am_s_iushr dc129_2.1.2.1 ?_
    refine am_s_iconst am_cc1 dc129_2.1.2.2 ?_
    refine am_s_iand dc129_2.2.1.1 ?_
    refine am_s_if_eq dc129_2.2.1.2 rfl (fun c2 => ?_) (fun c2 => ?_)
    · refine am_s_iinc (ls' := [some (.ref 145), some (.int x1), some (.int x2), some (.int (x3 + 1))]) am_cc1 rfl rfl dc129_3.2.2.2 ?_
      refine am_s_goto rfl dc129_4.1.1.1 ?_
      exact (vi_t (vi_f q c1).2 c2)
    · refine am_s_aload_n rfl dc129_2.2.2.1 ?_
      refine am_s_getR (r := 146) dc129_2.2.2.2 rfl rfl rfl (hp _ _ _ rfl) ?_
      refine am_s_iload_n rfl dc129_3.1.1.1 ?_
      refine am_s_bipush am_cb25 dc129_3.1.1.2 ?_
      refine am_s_imul dc129_3.1.2.1 ?_
      refine am_s_iload_n rfl dc129_3.1.2.2 ?_
      refine am_s_iadd dc129_3.2.1.1 ?_
      refine am_s_iload_n rfl dc129_3.2.1.2 ?_
      refine am_s_iastore dc129_3.2.2.1 rfl ((vi_f (vi_f q c1).2 c2).1) rfl ?_
      refine am_s_iinc (ls' := [some (.ref 145), some (.int x1), some (.int x2), some (.int (x3 + 1))]) am_cc1 rfl rfl dc129_3.2.2.2 ?_
      refine am_s_goto rfl dc129_4.1.1.1 ?_
      exact (vi_f (vi_f q c1).2 c2).2
-- grow (III)I
theorem v130_0 {sc : Option (Nat × (Nat → Int32))} {d k n : Nat} {P : am_O → Prop} {I : am_I} {J : am_J} {Pf : am_R} (hp : am_PF Pf) {x1 : Int32} {x2 : Int32} {x3 : Int32} (q : (am_in ((x1 * 25) + x2) 200 = true) ∧ (if ((UInt32.toInt32 (Int32.toUInt32 (I 138 (Int32.toNatClampNeg ((x1 * 25) + x2))) >>> (Int32.toUInt32 x3 &&& Int32.toUInt32 31))) &&& 1) = 0 then (P (.inl (some (.int 0)), (am_SH, I, J, Pf), k, n)) else (if x1 = (I 145 6) then (if x2 = (I 145 7) then (if x3 = (I 145 8) then (P (.inl (some (.int (I 145 9))), (am_SH, I, J, Pf), k, n)) else (am_go sc (d + 1) 130 (44, [some (.ref 145), some (.int x1), some (.int x2), some (.int x3)], [], (am_SH, I, J, Pf), k, n) P)) else (am_go sc (d + 1) 130 (44, [some (.ref 145), some (.int x1), some (.int x2), some (.int x3)], [], (am_SH, I, J, Pf), k, n) P)) else (am_go sc (d + 1) 130 (44, [some (.ref 145), some (.int x1), some (.int x2), some (.int x3)], [], (am_SH, I, J, Pf), k, n) P)))) : am_go sc (d + 1) 130 (0, [some (.ref 145), some (.int x1), some (.int x2), some (.int x3)], [], (am_SH, I, J, Pf), k, n) P := by
  refine am_s_aload_n rfl dc130_0.1.1.1 ?_
  refine am_s_getR (r := 135) dc130_0.1.1.2 rfl rfl rfl (hp _ _ _ rfl) ?_
  refine am_s_iload_n rfl dc130_0.1.2.1 ?_
  refine am_s_iload_n rfl dc130_0.1.2.2 ?_
  refine am_s_iload_n rfl dc130_0.2.1.1 ?_
  refine am_s_virtual false dc130_0.2.1.2 rfl (by decide) rfl rfl rfl (am_mth_of rfl rfl ?_)
  refine am_s_aload_n rfl dc118_0.1.1.1 ?_
  refine am_s_getR (r := 138) dc118_0.1.1.2 rfl rfl rfl (hp _ _ _ rfl) ?_
  refine am_s_iload_n rfl dc118_0.1.2.1 ?_
  refine am_s_bipush am_cb25 dc118_0.1.2.2 ?_
  refine am_s_imul dc118_0.2.1.1 ?_
  refine am_s_iload_n rfl dc118_0.2.1.2 ?_
  refine am_s_iadd dc118_0.2.2.1 ?_
  refine am_x_iaload (x := I 138 (Int32.toNatClampNeg ((x1 * 25) + x2))) dc118_0.2.2.2 rfl (q.1) rfl rfl ?_
  refine am_s_iload_n rfl dc118_1.1.1.1 ?_
  refine am_s_iushr dc118_1.1.1.2 ?_
  refine am_s_iconst am_cc1 dc118_1.1.2.1 ?_
  refine am_s_iand dc118_1.1.2.2 ?_
  refine am_s_if_eq dc118_1.2.1.1 rfl (fun c1 => ?_) (fun c1 => ?_)
  · refine am_s_iconst am_cc0 dc118_1.2.2.2 ?_
    refine am_s_zreturn dc118_2 rfl (by decide) (am_bkI ?_)
    refine am_s_if_ne dc130_0.2.2.1 rfl (fun z => absurd z (by decide)) (fun _ => ?_)
    refine am_s_iconst am_cc0 dc130_0.2.2.2 ?_
    exact am_s_ireturn dc130_1.1.1.1 rfl ((vi_t q.2 c1))
  · refine am_s_iconst am_cc1 dc118_1.2.1.2 ?_
    refine am_s_goto rfl dc118_1.2.2.1 ?_
    refine am_s_zreturn dc118_2 rfl (by decide) (am_bkI ?_)
    refine am_s_if_ne dc130_0.2.2.1 rfl (fun _ => ?_) (fun z => absurd z (by decide))
    refine am_s_iload_n rfl dc130_1.1.1.2 ?_
    refine am_s_aload_n rfl dc130_1.1.2.1 ?_
    refine am_x_getI (x := I 145 6) dc130_1.1.2.2 rfl rfl (Or.inl rfl) rfl ?_
    refine am_s_ic_ne dc130_1.2.1.1 rfl (fun c2 => ?_) (fun c2 => ?_)
    · exact (vi_f (vi_f q.2 c1) c2)
    · refine am_s_iload_n rfl dc130_1.2.1.2 ?_
      refine am_s_aload_n rfl dc130_1.2.2.1 ?_
      refine am_x_getI (x := I 145 7) dc130_1.2.2.2 rfl rfl (Or.inl rfl) rfl ?_
      refine am_s_ic_ne dc130_2.1.1.1 rfl (fun c3 => ?_) (fun c3 => ?_)
      · exact (vi_f (vi_t (vi_f q.2 c1) (Decidable.not_not.mp c2)) c3)
      · refine am_s_iload_n rfl dc130_2.1.1.2 ?_
        refine am_s_aload_n rfl dc130_2.1.2.1 ?_
        refine am_x_getI (x := I 145 8) dc130_2.1.2.2 rfl rfl (Or.inl rfl) rfl ?_
        refine am_s_ic_ne dc130_2.2.1.1 rfl (fun c4 => ?_) (fun c4 => ?_)
        · exact (vi_f (vi_t (vi_t (vi_f q.2 c1) (Decidable.not_not.mp c2)) (Decidable.not_not.mp c3)) c4)
        · refine am_s_aload_n rfl dc130_2.2.1.2 ?_
          refine am_x_getI (x := I 145 9) dc130_2.2.2.1 rfl rfl (Or.inl rfl) rfl ?_
          exact am_s_ireturn dc130_2.2.2.2 rfl ((vi_t (vi_t (vi_t (vi_f q.2 c1) (Decidable.not_not.mp c2)) (Decidable.not_not.mp c3)) (Decidable.not_not.mp c4)))
theorem v130_44 {sc : Option (Nat × (Nat → Int32))} {d k n : Nat} {P : am_O → Prop} {I : am_I} {J : am_J} {Pf : am_R} (hp : am_PF Pf) {x1 : Int32} {x2 : Int32} {x3 : Int32} (q : (am_mth d 127 [.ref 145] (am_SH, I, J, Pf) (am_af sc d 130 45 [some (.ref 145), some (.int x1), some (.int x2), some (.int x3)] [.ref 145] [] (am_SH, I, J, Pf) k n true P))) : am_go sc d 130 (44, [some (.ref 145), some (.int x1), some (.int x2), some (.int x3)], [], (am_SH, I, J, Pf), k, n) P := by
  refine am_s_aload_n rfl dc130_3.1.1.1 ?_
  exact am_s_virtual true dc130_3.1.1.2 rfl (by decide) rfl rfl rfl (q)
theorem v130_81 {sc : Option (Nat × (Nat → Int32))} {d k n : Nat} {P : am_O → Prop} {I : am_I} {J : am_J} {Pf : am_R} (hp : am_PF Pf) {l1 : Option Value} {l2 : Option Value} {l3 : Option Value} (q : (if 200 ≤ (I 145 9) then (P (.inl (some (.int (I 145 9))), (am_SH, I, J, Pf), k, n)) else (if (I 145 12) ≤ 0 then (P (.inl (some (.int (I 145 9))), (am_SH, I, J, Pf), k, n)) else (am_mth d 132 [.ref 145] (am_SH, I, J, Pf) (am_af sc d 130 99 [some (.ref 145), l1, l2, l3] [.ref 145] [] (am_SH, I, J, Pf) k n true P))))) : am_go sc d 130 (81, [some (.ref 145), l1, l2, l3], [], (am_SH, I, J, Pf), k, n) P := by
  refine am_s_aload_n rfl dc130_5.2.2.2 ?_
  refine am_x_getI (x := I 145 9) dc130_6.1.1.1 rfl rfl (Or.inl rfl) rfl ?_
  refine am_s_sipush am_cs200 dc130_6.1.1.2 ?_
  refine am_s_ic_ge dc130_6.1.2.1 rfl (fun c1 => ?_) (fun c1 => ?_)
  · refine am_s_aload_n rfl dc130_7.2.2.2 ?_
    refine am_x_getI (x := I 145 9) dc130_8.1 rfl rfl (Or.inl rfl) rfl ?_
    exact am_s_ireturn dc130_8.2 rfl ((vi_t q c1))
  · refine am_s_aload_n rfl dc130_6.1.2.2 ?_
    refine am_x_getI (x := I 145 12) dc130_6.2.1.1 rfl rfl (Or.inl rfl) rfl ?_
    refine am_s_if_le dc130_6.2.1.2 rfl (fun c2 => ?_) (fun c2 => ?_)
    · refine am_s_aload_n rfl dc130_7.2.2.2 ?_
      refine am_x_getI (x := I 145 9) dc130_8.1 rfl rfl (Or.inl rfl) rfl ?_
      exact am_s_ireturn dc130_8.2 rfl ((vi_t (vi_f q c1) c2))
    · refine am_s_aload_n rfl dc130_6.2.2.1 ?_
      exact am_s_virtual true dc130_6.2.2.2 rfl (by decide) rfl rfl rfl ((vi_f (vi_f q c1) c2))
theorem v130_48 {sc : Option (Nat × (Nat → Int32))} {d k n : Nat} {P : am_O → Prop} {I : am_I} {J : am_J} {Pf : am_R} (hp : am_PF Pf) {x1 : Int32} {x2 : Int32} {x3 : Int32} (q : (if (((0 : Int32) * 4) + 4) ≤ 2404 then (am_in ((0 : Int32) * 4) 2404 = true) ∧ (am_in (((0 : Int32) * 4) + 1) 2404 = true) ∧ (am_in (((0 : Int32) * 4) + 2) 2404 = true) ∧ (am_in (((0 : Int32) * 4) + 3) 2404 = true) ∧ (am_go sc (d + 1) 130 (81, [some (.ref 145), some (.int x1), some (.int x2), some (.int x3)], [], (am_SH, am_u (am_u (am_u (am_u (am_u (am_u (am_u (am_u (am_u (am_u I 145 6 x1) 145 7 x2) 145 8 x3) 145 12 0) 150 (Int32.toNatClampNeg ((0 : Int32) * 4)) x1) 150 (Int32.toNatClampNeg (((0 : Int32) * 4) + 1)) x2) 150 (Int32.toNatClampNeg (((0 : Int32) * 4) + 2)) x3) 150 (Int32.toNatClampNeg (((0 : Int32) * 4) + 3)) 0) 145 12 ((0 : Int32) + 1)) 145 9 0, J, Pf), k, n) P) else (am_go sc (d + 1) 130 (81, [some (.ref 145), some (.int x1), some (.int x2), some (.int x3)], [], (am_SH, am_u (am_u (am_u (am_u (am_u I 145 6 x1) 145 7 x2) 145 8 x3) 145 12 0) 145 9 0, J, Pf), k, n) P))) : am_go sc (d + 1) 130 (48, [some (.ref 145), some (.int x1), some (.int x2), some (.int x3)], [], (am_SH, I, J, Pf), k, n) P := by
  refine am_s_aload_n rfl dc130_3.1.2.1 ?_
  refine am_s_iload_n rfl dc130_3.1.2.2 ?_
  refine am_s_putI dc130_3.2.1.1 rfl rfl rfl rfl ?_
  refine am_s_aload_n rfl dc130_3.2.1.2 ?_
  refine am_s_iload_n rfl dc130_3.2.2.1 ?_
  refine am_s_putI dc130_3.2.2.2 rfl rfl rfl rfl ?_
  refine am_s_aload_n rfl dc130_4.1.1.1 ?_
  refine am_s_iload_n rfl dc130_4.1.1.2 ?_
  refine am_s_putI dc130_4.1.2.1 rfl rfl rfl rfl ?_
  refine am_s_aload_n rfl dc130_4.1.2.2 ?_
  refine am_s_iconst am_cc0 dc130_4.2.1.1 ?_
  refine am_s_putI dc130_4.2.1.2 rfl rfl rfl rfl ?_
  refine am_s_aload_n rfl dc130_4.2.2.1 ?_
  refine am_s_iload_n rfl dc130_4.2.2.2 ?_
  refine am_s_iload_n rfl dc130_5.1.1.1 ?_
  refine am_s_iload_n rfl dc130_5.1.1.2 ?_
  refine am_s_iconst am_cc0 dc130_5.1.2.1 ?_
  refine am_s_virtual true dc130_5.1.2.2 rfl (by decide) rfl rfl rfl (am_mth_of rfl rfl ?_)
  refine am_s_aload_n rfl dc131_0.1.1.1 ?_
  refine am_x_getI (x := 0) dc131_0.1.1.2 rfl rfl (Or.inl rfl) rfl ?_
  refine am_s_iconst am_cc4 dc131_0.1.2.1 ?_
  refine am_s_imul dc131_0.1.2.2 ?_
  refine am_s_istore (ls' := [some (.ref 145), some (.int x1), some (.int x2), some (.int x3), some (.int 0), some (.int ((0 : Int32) * 4))]) rfl rfl dc131_0.2.1.1 ?_
  refine am_s_iload rfl dc131_0.2.1.2 ?_
  refine am_s_iconst am_cc4 dc131_0.2.2.1 ?_
  refine am_s_iadd dc131_0.2.2.2 ?_
  refine am_s_aload_n rfl dc131_1.1.1.1 ?_
  refine am_s_getR (r := 150) dc131_1.1.1.2 rfl rfl rfl (hp _ _ _ rfl) ?_
  refine am_s_len (x := 2404) dc131_1.1.2.1 rfl rfl (by decide +kernel) ?_
  refine am_s_ic_le dc131_1.1.2.2 rfl (fun c1 => ?_) (fun c1 => ?_)
  · refine am_s_aload_n rfl dc131_1.2.1.2 ?_
    refine am_s_getR (r := 150) dc131_1.2.2.1 rfl rfl rfl (hp _ _ _ rfl) ?_
    refine am_s_iload rfl dc131_1.2.2.2 ?_
    refine am_s_iload_n rfl dc131_2.1.1.1 ?_
    refine am_s_iastore dc131_2.1.1.2 rfl ((vi_t q c1).1) rfl ?_
    refine am_s_aload_n rfl dc131_2.1.2.1 ?_
    refine am_s_getR (r := 150) dc131_2.1.2.2 rfl rfl rfl (hp _ _ _ rfl) ?_
    refine am_s_iload rfl dc131_2.2.1.1 ?_
    refine am_s_iconst am_cc1 dc131_2.2.1.2 ?_
    refine am_s_iadd dc131_2.2.2.1 ?_
    refine am_s_iload_n rfl dc131_2.2.2.2 ?_
    refine am_s_iastore dc131_3.1.1.1 rfl ((vi_t q c1).2.1) rfl ?_
    refine am_s_aload_n rfl dc131_3.1.1.2 ?_
    refine am_s_getR (r := 150) dc131_3.1.2.1 rfl rfl rfl (hp _ _ _ rfl) ?_
    refine am_s_iload rfl dc131_3.1.2.2 ?_
    refine am_s_iconst am_cc2 dc131_3.2.1.1 ?_
    refine am_s_iadd dc131_3.2.1.2 ?_
    refine am_s_iload_n rfl dc131_3.2.2.1 ?_
    refine am_s_iastore dc131_3.2.2.2 rfl ((vi_t q c1).2.2.1) rfl ?_
    refine am_s_aload_n rfl dc131_4.1.1.1 ?_
    refine am_s_getR (r := 150) dc131_4.1.1.2 rfl rfl rfl (hp _ _ _ rfl) ?_
    refine am_s_iload rfl dc131_4.1.2.1 ?_
    refine am_s_iconst am_cc3 dc131_4.1.2.2 ?_
    refine am_s_iadd dc131_4.2.1.1 ?_
    refine am_s_iload rfl dc131_4.2.1.2 ?_
    refine am_s_iastore dc131_4.2.2.1 rfl ((vi_t q c1).2.2.2.1) rfl ?_
    refine am_s_aload_n rfl dc131_4.2.2.2 ?_
    refine am_s_dup rfl dc131_5.1.1 ?_
    refine am_x_getI (x := 0) dc131_5.1.2.1 rfl rfl (Or.inl rfl) rfl ?_
    refine am_s_iconst am_cc1 dc131_5.1.2.2 ?_
    refine am_s_iadd dc131_5.2.1 ?_
    refine am_s_putI dc131_5.2.2.1 rfl rfl rfl rfl ?_
    refine am_s_return dc131_5.2.2.2 rfl (am_bkV ?_)
    refine am_s_aload_n rfl dc130_5.2.1.1 ?_
    refine am_s_iconst am_cc0 dc130_5.2.1.2 ?_
    refine am_s_putI dc130_5.2.2.1 rfl rfl rfl rfl ?_
    exact (vi_t q c1).2.2.2.2
  · refine am_s_return dc131_1.2.1.1 rfl (am_bkV ?_)
    refine am_s_aload_n rfl dc130_5.2.1.1 ?_
    refine am_s_iconst am_cc0 dc130_5.2.1.2 ?_
    refine am_s_putI dc130_5.2.2.1 rfl rfl rfl rfl ?_
    exact (vi_f q c1)
theorem v130_102 {sc : Option (Nat × (Nat → Int32))} {d k n : Nat} {P : am_O → Prop} {I : am_I} {J : am_J} {Pf : am_R} (hp : am_PF Pf) {l1 : Option Value} {l2 : Option Value} {l3 : Option Value} (q : (am_go sc d 130 (81, [some (.ref 145), l1, l2, l3], [], (am_SH, am_u I 145 9 ((I 145 9) + 1), J, Pf), k, n) P)) : am_go sc d 130 (102, [some (.ref 145), l1, l2, l3], [], (am_SH, I, J, Pf), k, n) P := by
  refine am_s_aload_n rfl dc130_7.1.1.1 ?_
  refine am_s_dup rfl dc130_7.1.1.2 ?_
  refine am_x_getI (x := I 145 9) dc130_7.1.2.1 rfl rfl (Or.inl rfl) rfl ?_
  refine am_s_iconst am_cc1 dc130_7.1.2.2 ?_
  refine am_s_iadd dc130_7.2.1.1 ?_
  refine am_s_putI dc130_7.2.1.2 rfl rfl rfl rfl ?_
  refine am_s_goto rfl dc130_7.2.2.1 ?_
  exact q
-- await (IIII)V
theorem v131_0 {sc : Option (Nat × (Nat → Int32))} {d k n : Nat} {P : am_O → Prop} {I : am_I} {J : am_J} {Pf : am_R} (hp : am_PF Pf) {x1 : Int32} {x2 : Int32} {x3 : Int32} {x4 : Int32} {l5 : Option Value} (q : (if (((I 145 12) * 4) + 4) ≤ 2404 then (am_in ((I 145 12) * 4) 2404 = true) ∧ (am_in (((I 145 12) * 4) + 1) 2404 = true) ∧ (am_in (((I 145 12) * 4) + 2) 2404 = true) ∧ (am_in (((I 145 12) * 4) + 3) 2404 = true) ∧ (P (.inl none, (am_SH, am_u (am_u (am_u (am_u (am_u I 150 (Int32.toNatClampNeg ((I 145 12) * 4)) x1) 150 (Int32.toNatClampNeg (((I 145 12) * 4) + 1)) x2) 150 (Int32.toNatClampNeg (((I 145 12) * 4) + 2)) x3) 150 (Int32.toNatClampNeg (((I 145 12) * 4) + 3)) x4) 145 12 ((I 145 12) + 1), J, Pf), k, n)) else (P (.inl none, (am_SH, I, J, Pf), k, n)))) : am_go sc d 131 (0, [some (.ref 145), some (.int x1), some (.int x2), some (.int x3), some (.int x4), l5], [], (am_SH, I, J, Pf), k, n) P := by
  refine am_s_aload_n rfl dc131_0.1.1.1 ?_
  refine am_x_getI (x := I 145 12) dc131_0.1.1.2 rfl rfl (Or.inl rfl) rfl ?_
  refine am_s_iconst am_cc4 dc131_0.1.2.1 ?_
  refine am_s_imul dc131_0.1.2.2 ?_
  refine am_s_istore (ls' := [some (.ref 145), some (.int x1), some (.int x2), some (.int x3), some (.int x4), some (.int ((I 145 12) * 4))]) rfl rfl dc131_0.2.1.1 ?_
  refine am_s_iload rfl dc131_0.2.1.2 ?_
  refine am_s_iconst am_cc4 dc131_0.2.2.1 ?_
  refine am_s_iadd dc131_0.2.2.2 ?_
  refine am_s_aload_n rfl dc131_1.1.1.1 ?_
  refine am_s_getR (r := 150) dc131_1.1.1.2 rfl rfl rfl (hp _ _ _ rfl) ?_
  refine am_s_len (x := 2404) dc131_1.1.2.1 rfl rfl (by decide +kernel) ?_
  refine am_s_ic_le dc131_1.1.2.2 rfl (fun c1 => ?_) (fun c1 => ?_)
  · refine am_s_aload_n rfl dc131_1.2.1.2 ?_
    refine am_s_getR (r := 150) dc131_1.2.2.1 rfl rfl rfl (hp _ _ _ rfl) ?_
    refine am_s_iload rfl dc131_1.2.2.2 ?_
    refine am_s_iload_n rfl dc131_2.1.1.1 ?_
    refine am_s_iastore dc131_2.1.1.2 rfl ((vi_t q c1).1) rfl ?_
    refine am_s_aload_n rfl dc131_2.1.2.1 ?_
    refine am_s_getR (r := 150) dc131_2.1.2.2 rfl rfl rfl (hp _ _ _ rfl) ?_
    refine am_s_iload rfl dc131_2.2.1.1 ?_
    refine am_s_iconst am_cc1 dc131_2.2.1.2 ?_
    refine am_s_iadd dc131_2.2.2.1 ?_
    refine am_s_iload_n rfl dc131_2.2.2.2 ?_
    refine am_s_iastore dc131_3.1.1.1 rfl ((vi_t q c1).2.1) rfl ?_
    refine am_s_aload_n rfl dc131_3.1.1.2 ?_
    refine am_s_getR (r := 150) dc131_3.1.2.1 rfl rfl rfl (hp _ _ _ rfl) ?_
    refine am_s_iload rfl dc131_3.1.2.2 ?_
    refine am_s_iconst am_cc2 dc131_3.2.1.1 ?_
    refine am_s_iadd dc131_3.2.1.2 ?_
    refine am_s_iload_n rfl dc131_3.2.2.1 ?_
    refine am_s_iastore dc131_3.2.2.2 rfl ((vi_t q c1).2.2.1) rfl ?_
    refine am_s_aload_n rfl dc131_4.1.1.1 ?_
    refine am_s_getR (r := 150) dc131_4.1.1.2 rfl rfl rfl (hp _ _ _ rfl) ?_
    refine am_s_iload rfl dc131_4.1.2.1 ?_
    refine am_s_iconst am_cc3 dc131_4.1.2.2 ?_
    refine am_s_iadd dc131_4.2.1.1 ?_
    refine am_s_iload rfl dc131_4.2.1.2 ?_
    refine am_s_iastore dc131_4.2.2.1 rfl ((vi_t q c1).2.2.2.1) rfl ?_
    refine am_s_aload_n rfl dc131_4.2.2.2 ?_
    refine am_s_dup rfl dc131_5.1.1 ?_
    refine am_x_getI (x := I 145 12) dc131_5.1.2.1 rfl rfl (Or.inl rfl) rfl ?_
    refine am_s_iconst am_cc1 dc131_5.1.2.2 ?_
    refine am_s_iadd dc131_5.2.1 ?_
    refine am_s_putI dc131_5.2.2.1 rfl rfl rfl rfl ?_
    exact am_s_return dc131_5.2.2.2 rfl ((vi_t q c1).2.2.2.2)
  · exact am_s_return dc131_1.2.1.1 rfl ((vi_f q c1))
-- tellNext ()V
theorem v132_0 {sc : Option (Nat × (Nat → Int32))} {d k n : Nat} {P : am_O → Prop} {I : am_I} {J : am_J} {Pf : am_R} (hp : am_PF Pf) {l1 : Option Value} {l2 : Option Value} {l3 : Option Value} {l4 : Option Value} {l5 : Option Value} {l6 : Option Value} {l7 : Option Value} (q : (am_in (((I 145 12) - 1) * 4) 2404 = true) ∧ (am_in ((((I 145 12) - 1) * 4) + 1) 2404 = true) ∧ (am_in ((((I 145 12) - 1) * 4) + 2) 2404 = true) ∧ (am_in ((((I 145 12) - 1) * 4) + 3) 2404 = true) ∧ (am_in (((((I 150 (Int32.toNatClampNeg (((I 145 12) - 1) * 4))) * 25) + (I 150 (Int32.toNatClampNeg ((((I 145 12) - 1) * 4) + 1)))) * 25) + (I 150 (Int32.toNatClampNeg ((((I 145 12) - 1) * 4) + 2)))) 5000 = true) ∧ (am_in ((I 145 9) * 6) 1200 = true) ∧ (am_in (((I 145 9) * 6) + 1) 1200 = true) ∧ (am_in (((I 145 9) * 6) + 2) 1200 = true) ∧ (am_in (((I 145 9) * 6) + 3) 1200 = true) ∧ (am_in (((I 145 9) * 6) + 4) 1200 = true) ∧ (am_in (((I 145 9) * 6) + 5) 1200 = true) ∧ (am_mth d 133 [.ref 145, .int (I 150 (Int32.toNatClampNeg (((I 145 12) - 1) * 4))), .int (I 150 (Int32.toNatClampNeg ((((I 145 12) - 1) * 4) + 1))), .int (I 150 (Int32.toNatClampNeg ((((I 145 12) - 1) * 4) + 2))), .int (I 146 (Int32.toNatClampNeg (((((I 150 (Int32.toNatClampNeg (((I 145 12) - 1) * 4))) * 25) + (I 150 (Int32.toNatClampNeg ((((I 145 12) - 1) * 4) + 1)))) * 25) + (I 150 (Int32.toNatClampNeg ((((I 145 12) - 1) * 4) + 2)))))), .int ((I 150 (Int32.toNatClampNeg ((((I 145 12) - 1) * 4) + 3))) + 1)] (am_SH, am_u (am_u (am_u (am_u (am_u (am_u (am_u I 145 12 ((I 145 12) - 1)) 149 (Int32.toNatClampNeg ((I 145 9) * 6)) (I 150 (Int32.toNatClampNeg (((I 145 12) - 1) * 4)))) 149 (Int32.toNatClampNeg (((I 145 9) * 6) + 1)) (I 150 (Int32.toNatClampNeg ((((I 145 12) - 1) * 4) + 1)))) 149 (Int32.toNatClampNeg (((I 145 9) * 6) + 2)) (I 150 (Int32.toNatClampNeg ((((I 145 12) - 1) * 4) + 2)))) 149 (Int32.toNatClampNeg (((I 145 9) * 6) + 3)) (I 146 (Int32.toNatClampNeg (((((I 150 (Int32.toNatClampNeg (((I 145 12) - 1) * 4))) * 25) + (I 150 (Int32.toNatClampNeg ((((I 145 12) - 1) * 4) + 1)))) * 25) + (I 150 (Int32.toNatClampNeg ((((I 145 12) - 1) * 4) + 2))))))) 149 (Int32.toNatClampNeg (((I 145 9) * 6) + 4)) (-1)) 149 (Int32.toNatClampNeg (((I 145 9) * 6) + 5)) (I 150 (Int32.toNatClampNeg ((((I 145 12) - 1) * 4) + 3))), J, Pf) (am_af sc d 132 153 [some (.ref 145), some (.int (((I 145 12) - 1) * 4)), some (.int (I 150 (Int32.toNatClampNeg (((I 145 12) - 1) * 4)))), some (.int (I 150 (Int32.toNatClampNeg ((((I 145 12) - 1) * 4) + 1)))), some (.int (I 150 (Int32.toNatClampNeg ((((I 145 12) - 1) * 4) + 2)))), some (.int (I 150 (Int32.toNatClampNeg ((((I 145 12) - 1) * 4) + 3)))), some (.int (I 146 (Int32.toNatClampNeg (((((I 150 (Int32.toNatClampNeg (((I 145 12) - 1) * 4))) * 25) + (I 150 (Int32.toNatClampNeg ((((I 145 12) - 1) * 4) + 1)))) * 25) + (I 150 (Int32.toNatClampNeg ((((I 145 12) - 1) * 4) + 2))))))), some (.int ((I 145 9) * 6))] [.int ((I 150 (Int32.toNatClampNeg ((((I 145 12) - 1) * 4) + 3))) + 1), .int (I 146 (Int32.toNatClampNeg (((((I 150 (Int32.toNatClampNeg (((I 145 12) - 1) * 4))) * 25) + (I 150 (Int32.toNatClampNeg ((((I 145 12) - 1) * 4) + 1)))) * 25) + (I 150 (Int32.toNatClampNeg ((((I 145 12) - 1) * 4) + 2)))))), .int (I 150 (Int32.toNatClampNeg ((((I 145 12) - 1) * 4) + 2))), .int (I 150 (Int32.toNatClampNeg ((((I 145 12) - 1) * 4) + 1))), .int (I 150 (Int32.toNatClampNeg (((I 145 12) - 1) * 4))), .ref 145] [] (am_SH, am_u (am_u (am_u (am_u (am_u (am_u (am_u I 145 12 ((I 145 12) - 1)) 149 (Int32.toNatClampNeg ((I 145 9) * 6)) (I 150 (Int32.toNatClampNeg (((I 145 12) - 1) * 4)))) 149 (Int32.toNatClampNeg (((I 145 9) * 6) + 1)) (I 150 (Int32.toNatClampNeg ((((I 145 12) - 1) * 4) + 1)))) 149 (Int32.toNatClampNeg (((I 145 9) * 6) + 2)) (I 150 (Int32.toNatClampNeg ((((I 145 12) - 1) * 4) + 2)))) 149 (Int32.toNatClampNeg (((I 145 9) * 6) + 3)) (I 146 (Int32.toNatClampNeg (((((I 150 (Int32.toNatClampNeg (((I 145 12) - 1) * 4))) * 25) + (I 150 (Int32.toNatClampNeg ((((I 145 12) - 1) * 4) + 1)))) * 25) + (I 150 (Int32.toNatClampNeg ((((I 145 12) - 1) * 4) + 2))))))) 149 (Int32.toNatClampNeg (((I 145 9) * 6) + 4)) (-1)) 149 (Int32.toNatClampNeg (((I 145 9) * 6) + 5)) (I 150 (Int32.toNatClampNeg ((((I 145 12) - 1) * 4) + 3))), J, Pf) k n true P))) : am_go sc d 132 (0, [some (.ref 145), l1, l2, l3, l4, l5, l6, l7], [], (am_SH, I, J, Pf), k, n) P := by
  refine am_s_aload_n rfl dc132_0.1.1.1 ?_
  refine am_s_dup rfl dc132_0.1.1.2 ?_
  refine am_x_getI (x := I 145 12) dc132_0.1.2.1 rfl rfl (Or.inl rfl) rfl ?_
  refine am_s_iconst am_cc1 dc132_0.1.2.2 ?_
  refine am_s_isub dc132_0.2.1.1 ?_
  refine am_s_putI dc132_0.2.1.2 rfl rfl rfl rfl ?_
  refine am_s_aload_n rfl dc132_0.2.2.1 ?_
  refine am_x_getI (x := (I 145 12) - 1) dc132_0.2.2.2 rfl rfl (Or.inl rfl) rfl ?_
  refine am_s_iconst am_cc4 dc132_1.1.1.1 ?_
  refine am_s_imul dc132_1.1.1.2 ?_
  refine am_s_istore_n (ls' := [some (.ref 145), some (.int (((I 145 12) - 1) * 4)), l2, l3, l4, l5, l6, l7]) rfl rfl dc132_1.1.2.1 ?_
  refine am_s_aload_n rfl dc132_1.1.2.2 ?_
  refine am_s_getR (r := 150) dc132_1.2.1.1 rfl rfl rfl (hp _ _ _ rfl) ?_
  refine am_s_iload_n rfl dc132_1.2.1.2 ?_
  refine am_x_iaload (x := I 150 (Int32.toNatClampNeg (((I 145 12) - 1) * 4))) dc132_1.2.2.1 rfl (q.1) rfl rfl ?_
  refine am_s_istore_n (ls' := [some (.ref 145), some (.int (((I 145 12) - 1) * 4)), some (.int (I 150 (Int32.toNatClampNeg (((I 145 12) - 1) * 4)))), l3, l4, l5, l6, l7]) rfl rfl dc132_1.2.2.2 ?_
  refine am_s_aload_n rfl dc132_2.1.1.1 ?_
  refine am_s_getR (r := 150) dc132_2.1.1.2 rfl rfl rfl (hp _ _ _ rfl) ?_
  refine am_s_iload_n rfl dc132_2.1.2.1 ?_
  refine am_s_iconst am_cc1 dc132_2.1.2.2 ?_
  refine am_s_iadd dc132_2.2.1.1 ?_
  refine am_x_iaload (x := I 150 (Int32.toNatClampNeg ((((I 145 12) - 1) * 4) + 1))) dc132_2.2.1.2 rfl (q.2.1) rfl rfl ?_
  refine am_s_istore_n (ls' := [some (.ref 145), some (.int (((I 145 12) - 1) * 4)), some (.int (I 150 (Int32.toNatClampNeg (((I 145 12) - 1) * 4)))), some (.int (I 150 (Int32.toNatClampNeg ((((I 145 12) - 1) * 4) + 1)))), l4, l5, l6, l7]) rfl rfl dc132_2.2.2.1 ?_
  refine am_s_aload_n rfl dc132_2.2.2.2 ?_
  refine am_s_getR (r := 150) dc132_3.1.1.1 rfl rfl rfl (hp _ _ _ rfl) ?_
  refine am_s_iload_n rfl dc132_3.1.1.2 ?_
  refine am_s_iconst am_cc2 dc132_3.1.2.1 ?_
  refine am_s_iadd dc132_3.1.2.2 ?_
  refine am_x_iaload (x := I 150 (Int32.toNatClampNeg ((((I 145 12) - 1) * 4) + 2))) dc132_3.2.1.1 rfl (q.2.2.1) rfl rfl ?_
  refine am_s_istore (ls' := [some (.ref 145), some (.int (((I 145 12) - 1) * 4)), some (.int (I 150 (Int32.toNatClampNeg (((I 145 12) - 1) * 4)))), some (.int (I 150 (Int32.toNatClampNeg ((((I 145 12) - 1) * 4) + 1)))), some (.int (I 150 (Int32.toNatClampNeg ((((I 145 12) - 1) * 4) + 2)))), l5, l6, l7]) rfl rfl dc132_3.2.1.2 ?_
  refine am_s_aload_n rfl dc132_3.2.2.1 ?_
  refine am_s_getR (r := 150) dc132_3.2.2.2 rfl rfl rfl (hp _ _ _ rfl) ?_
  refine am_s_iload_n rfl dc132_4.1.1.1 ?_
  refine am_s_iconst am_cc3 dc132_4.1.1.2 ?_
  refine am_s_iadd dc132_4.1.2.1 ?_
  refine am_x_iaload (x := I 150 (Int32.toNatClampNeg ((((I 145 12) - 1) * 4) + 3))) dc132_4.1.2.2 rfl (q.2.2.2.1) rfl rfl ?_
  refine am_s_istore (ls' := [some (.ref 145), some (.int (((I 145 12) - 1) * 4)), some (.int (I 150 (Int32.toNatClampNeg (((I 145 12) - 1) * 4)))), some (.int (I 150 (Int32.toNatClampNeg ((((I 145 12) - 1) * 4) + 1)))), some (.int (I 150 (Int32.toNatClampNeg ((((I 145 12) - 1) * 4) + 2)))), some (.int (I 150 (Int32.toNatClampNeg ((((I 145 12) - 1) * 4) + 3)))), l6, l7]) rfl rfl dc132_4.2.1.1 ?_
  refine am_s_aload_n rfl dc132_4.2.1.2 ?_
  refine am_s_getR (r := 146) dc132_4.2.2.1 rfl rfl rfl (hp _ _ _ rfl) ?_
  refine am_s_iload_n rfl dc132_4.2.2.2 ?_
  refine am_s_bipush am_cb25 dc132_5.1.1.1 ?_
  refine am_s_imul dc132_5.1.1.2 ?_
  refine am_s_iload_n rfl dc132_5.1.2.1 ?_
  refine am_s_iadd dc132_5.1.2.2 ?_
  refine am_s_bipush am_cb25 dc132_5.2.1.1 ?_
  refine am_s_imul dc132_5.2.1.2 ?_
  refine am_s_iload rfl dc132_5.2.2.1 ?_
  refine am_s_iadd dc132_5.2.2.2 ?_
  refine am_x_iaload (x := I 146 (Int32.toNatClampNeg (((((I 150 (Int32.toNatClampNeg (((I 145 12) - 1) * 4))) * 25) + (I 150 (Int32.toNatClampNeg ((((I 145 12) - 1) * 4) + 1)))) * 25) + (I 150 (Int32.toNatClampNeg ((((I 145 12) - 1) * 4) + 2)))))) dc132_6.1.1.1 rfl (q.2.2.2.2.1) rfl rfl ?_
  refine am_s_istore (ls' := [some (.ref 145), some (.int (((I 145 12) - 1) * 4)), some (.int (I 150 (Int32.toNatClampNeg (((I 145 12) - 1) * 4)))), some (.int (I 150 (Int32.toNatClampNeg ((((I 145 12) - 1) * 4) + 1)))), some (.int (I 150 (Int32.toNatClampNeg ((((I 145 12) - 1) * 4) + 2)))), some (.int (I 150 (Int32.toNatClampNeg ((((I 145 12) - 1) * 4) + 3)))), some (.int (I 146 (Int32.toNatClampNeg (((((I 150 (Int32.toNatClampNeg (((I 145 12) - 1) * 4))) * 25) + (I 150 (Int32.toNatClampNeg ((((I 145 12) - 1) * 4) + 1)))) * 25) + (I 150 (Int32.toNatClampNeg ((((I 145 12) - 1) * 4) + 2))))))), l7]) rfl rfl dc132_6.1.1.2 ?_
  refine am_s_aload_n rfl dc132_6.1.2.1 ?_
  refine am_x_getI (x := I 145 9) dc132_6.1.2.2 rfl rfl (Or.inl rfl) rfl ?_
  refine am_s_bipush am_cb6 dc132_6.2.1.1 ?_
  refine am_s_imul dc132_6.2.1.2 ?_
  refine am_s_istore (ls' := [some (.ref 145), some (.int (((I 145 12) - 1) * 4)), some (.int (I 150 (Int32.toNatClampNeg (((I 145 12) - 1) * 4)))), some (.int (I 150 (Int32.toNatClampNeg ((((I 145 12) - 1) * 4) + 1)))), some (.int (I 150 (Int32.toNatClampNeg ((((I 145 12) - 1) * 4) + 2)))), some (.int (I 150 (Int32.toNatClampNeg ((((I 145 12) - 1) * 4) + 3)))), some (.int (I 146 (Int32.toNatClampNeg (((((I 150 (Int32.toNatClampNeg (((I 145 12) - 1) * 4))) * 25) + (I 150 (Int32.toNatClampNeg ((((I 145 12) - 1) * 4) + 1)))) * 25) + (I 150 (Int32.toNatClampNeg ((((I 145 12) - 1) * 4) + 2))))))), some (.int ((I 145 9) * 6))]) rfl rfl dc132_6.2.2.1 ?_
  refine am_s_aload_n rfl dc132_6.2.2.2 ?_
  refine am_s_getR (r := 149) dc132_7.1.1.1 rfl rfl rfl (hp _ _ _ rfl) ?_
  refine am_s_iload rfl dc132_7.1.1.2 ?_
  refine am_s_iload_n rfl dc132_7.1.2.1 ?_
  refine am_s_iastore dc132_7.1.2.2 rfl (q.2.2.2.2.2.1) rfl ?_
  refine am_s_aload_n rfl dc132_7.2.1.1 ?_
  refine am_s_getR (r := 149) dc132_7.2.1.2 rfl rfl rfl (hp _ _ _ rfl) ?_
  refine am_s_iload rfl dc132_7.2.2.1 ?_
  refine am_s_iconst am_cc1 dc132_7.2.2.2 ?_
  refine am_s_iadd dc132_8.1.1.1 ?_
  refine am_s_iload_n rfl dc132_8.1.1.2 ?_
  refine am_s_iastore dc132_8.1.2.1 rfl (q.2.2.2.2.2.2.1) rfl ?_
  refine am_s_aload_n rfl dc132_8.1.2.2 ?_
  refine am_s_getR (r := 149) dc132_8.2.1.1 rfl rfl rfl (hp _ _ _ rfl) ?_
  refine am_s_iload rfl dc132_8.2.1.2 ?_
  refine am_s_iconst am_cc2 dc132_8.2.2.1 ?_
  refine am_s_iadd dc132_8.2.2.2 ?_
  refine am_s_iload rfl dc132_9.1.1.1 ?_
  refine am_s_iastore dc132_9.1.1.2 rfl (q.2.2.2.2.2.2.2.1) rfl ?_
  refine am_s_aload_n rfl dc132_9.1.2.1 ?_
  refine am_s_getR (r := 149) dc132_9.1.2.2 rfl rfl rfl (hp _ _ _ rfl) ?_
  refine am_s_iload rfl dc132_9.2.1.1 ?_
  refine am_s_iconst am_cc3 dc132_9.2.1.2 ?_
  refine am_s_iadd dc132_9.2.2.1 ?_
  refine am_s_iload rfl dc132_9.2.2.2 ?_
  refine am_s_iastore dc132_10.1.1.1 rfl (q.2.2.2.2.2.2.2.2.1) rfl ?_
  refine am_s_aload_n rfl dc132_10.1.1.2 ?_
  refine am_s_getR (r := 149) dc132_10.1.2.1 rfl rfl rfl (hp _ _ _ rfl) ?_
  refine am_s_iload rfl dc132_10.1.2.2 ?_
  refine am_s_iconst am_cc4 dc132_10.2.1.1 ?_
  refine am_s_iadd dc132_10.2.1.2 ?_
  refine am_s_iconst am_ccm1 dc132_10.2.2.1 ?_
  refine am_s_iastore dc132_10.2.2.2 rfl (q.2.2.2.2.2.2.2.2.2.1) rfl ?_
  refine am_s_aload_n rfl dc132_11.1.1.1 ?_
  refine am_s_getR (r := 149) dc132_11.1.1.2 rfl rfl rfl (hp _ _ _ rfl) ?_
  refine am_s_iload rfl dc132_11.1.2.1 ?_
  refine am_s_iconst am_cc5 dc132_11.1.2.2 ?_
  refine am_s_iadd dc132_11.2.1.1 ?_
  refine am_s_iload rfl dc132_11.2.1.2 ?_
  refine am_s_iastore dc132_11.2.2.1 rfl (q.2.2.2.2.2.2.2.2.2.2.1) rfl ?_
  refine am_s_aload_n rfl dc132_11.2.2.2 ?_
  refine am_s_iload_n rfl dc132_12.1.1.1 ?_
  refine am_s_iload_n rfl dc132_12.1.1.2 ?_
  refine am_s_iload rfl dc132_12.1.2.1 ?_
  refine am_s_iload rfl dc132_12.1.2.2 ?_
  refine am_s_iload rfl dc132_12.2.1.1 ?_
  refine am_s_iconst am_cc1 dc132_12.2.1.2 ?_
  refine am_s_iadd dc132_12.2.2.1 ?_
  exact am_s_virtual true dc132_12.2.2.2 rfl (by decide) rfl rfl rfl (q.2.2.2.2.2.2.2.2.2.2.2)
theorem v132_156 {sc : Option (Nat × (Nat → Int32))} {d k n : Nat} {P : am_O → Prop} {I : am_I} {J : am_J} {Pf : am_R} (hp : am_PF Pf) {l0 : Option Value} {l1 : Option Value} {l2 : Option Value} {l3 : Option Value} {l4 : Option Value} {l5 : Option Value} {l6 : Option Value} {l7 : Option Value} (q : (P (.inl none, (am_SH, I, J, Pf), k, n))) : am_go sc d 132 (156, [l0, l1, l2, l3, l4, l5, l6, l7], [], (am_SH, I, J, Pf), k, n) P := by
  exact am_s_return dc132_13 rfl (q)
-- branch (IIIII)V
theorem v133_0 {sc : Option (Nat × (Nat → Int32))} {d k n : Nat} {P : am_O → Prop} {I : am_I} {J : am_J} {Pf : am_R} (hp : am_PF Pf) {x1 : Int32} {x2 : Int32} {x3 : Int32} {x4 : Int32} {x5 : Int32} {l6 : Option Value} {l7 : Option Value} {l8 : Option Value} {l9 : Option Value} {l10 : Option Value} {l11 : Option Value} {l12 : Option Value} (q : ∃ r112_0x1 : Nat, (Pf 112 0 = some r112_0x1) ∧ (am_SH[r112_0x1]? = some (.inl 4)) ∧ (am_go sc d 133 (12, [some (.ref 145), some (.int x1), some (.int x2), some (.int x3), some (.int x4), some (.int x5), some (.ref r112_0x1), some (.int 0), l8, l9, l10, l11, l12], [], (am_SH, I, J, Pf), k, n) P)) : am_go sc d 133 (0, [some (.ref 145), some (.int x1), some (.int x2), some (.int x3), some (.int x4), some (.int x5), l6, l7, l8, l9, l10, l11, l12], [], (am_SH, I, J, Pf), k, n) P := by
  refine am_s_aload_n rfl dc133_0.1.1.1 ?_
  refine am_s_getR (r := 112) dc133_0.1.1.2 rfl rfl rfl (hp _ _ _ rfl) ?_
  obtain ⟨r112_0x1, qx1⟩ := q
  refine am_s_getR (r := r112_0x1) dc133_0.1.2.1 rfl rfl rfl (qx1.1) ?_
  refine am_s_astore (ls' := [some (.ref 145), some (.int x1), some (.int x2), some (.int x3), some (.int x4), some (.int x5), some (.ref r112_0x1), l7, l8, l9, l10, l11, l12]) rfl rfl dc133_0.1.2.2 ?_
  refine am_s_iconst am_cc0 dc133_0.2.1.1 ?_
  refine am_s_istore (ls' := [some (.ref 145), some (.int x1), some (.int x2), some (.int x3), some (.int x4), some (.int x5), some (.ref r112_0x1), some (.int 0), l8, l9, l10, l11, l12]) rfl rfl dc133_0.2.1.2 ?_
  exact qx1.2.2
theorem v133_12 {sc : Option (Nat × (Nat → Int32))} {d k n : Nat} {P : am_O → Prop} {I : am_I} {J : am_J} {Pf : am_R} (hp : am_PF Pf) {x1 : Int32} {x2 : Int32} {x3 : Int32} {x4 : Int32} {x5 : Int32} {x6 : Nat} (hx6 : am_SH[x6]? = some (.inl 4)) {x7 : Int32} {l8 : Option Value} {l9 : Option Value} {l10 : Option Value} {l11 : Option Value} {l12 : Option Value} (q : (if (I x6 2) ≤ x7 then (P (.inl none, (am_SH, I, J, Pf), k, n)) else (am_in x7 20 = true) ∧ (if (I (x6 + 2) (Int32.toNatClampNeg x7)) = x1 then (am_mth d 134 [.ref 145, .int x7, .int x2, .int x3, .int x4] (am_SH, I, J, Pf) (am_af sc d 133 41 [some (.ref 145), some (.int x1), some (.int x2), some (.int x3), some (.int x4), some (.int x5), some (.ref x6), some (.int x7), l8, l9, l10, l11, l12] [.int x4, .int x3, .int x2, .int x7, .ref 145] [] (am_SH, I, J, Pf) k n true P)) else (am_go sc d 133 (12, [some (.ref 145), some (.int x1), some (.int x2), some (.int x3), some (.int x4), some (.int x5), some (.ref x6), some (.int (x7 + 1)), l8, l9, l10, l11, l12], [], (am_SH, I, J, Pf), k, n) P)))) : am_go sc d 133 (12, [some (.ref 145), some (.int x1), some (.int x2), some (.int x3), some (.int x4), some (.int x5), some (.ref x6), some (.int x7), l8, l9, l10, l11, l12], [], (am_SH, I, J, Pf), k, n) P := by
  refine am_s_iload rfl dc133_0.2.2.1 ?_
  refine am_s_aload rfl dc133_0.2.2.2 ?_
  refine am_x_getI (x := I x6 2) dc133_1.1.1.1 rfl hx6 (Or.inl rfl) rfl ?_
  refine am_s_ic_ge dc133_1.1.1.2 rfl (fun c1 => ?_) (fun c1 => ?_)
  · exact am_s_return dc133_12.2.2 rfl ((vi_t q c1))
  · refine am_s_aload rfl dc133_1.1.2.1 ?_
    refine am_s_getR (r := x6 + 2) dc133_1.1.2.2 rfl hx6 rfl (am_r4_3 hp hx6) ?_
    refine am_s_iload rfl dc133_1.2.1.1 ?_
    refine am_x_iaload (x := I (x6 + 2) (Int32.toNatClampNeg x7)) dc133_1.2.1.2 (am_h4_3 hx6) ((vi_f q c1).1) rfl rfl ?_
    refine am_s_iload_n rfl dc133_1.2.2.1 ?_
    refine am_s_ic_ne dc133_1.2.2.2 rfl (fun c2 => ?_) (fun c2 => ?_)
    · refine am_s_iinc (ls' := [some (.ref 145), some (.int x1), some (.int x2), some (.int x3), some (.int x4), some (.int x5), some (.ref x6), some (.int (x7 + 1)), l8, l9, l10, l11, l12]) am_cc1 rfl rfl dc133_12.1.2 ?_
      refine am_s_goto rfl dc133_12.2.1 ?_
      exact (vi_f (vi_f q c1).2 c2)
    · refine am_s_aload_n rfl dc133_2.1.1.1 ?_
      refine am_s_iload rfl dc133_2.1.1.2 ?_
      refine am_s_iload_n rfl dc133_2.1.2.1 ?_
      refine am_s_iload_n rfl dc133_2.1.2.2 ?_
      refine am_s_iload rfl dc133_2.2.1.1 ?_
      exact am_s_virtual true dc133_2.2.1.2 rfl (by decide) rfl rfl rfl ((vi_t (vi_f q c1).2 (Decidable.not_not.mp c2)))
theorem v133_62 {sc : Option (Nat × (Nat → Int32))} {d k n : Nat} {P : am_O → Prop} {I : am_I} {J : am_J} {Pf : am_R} (hp : am_PF Pf) {l1 : Option Value} {l2 : Option Value} {x3 : Int32} {x4 : Int32} {x5 : Int32} {x6 : Nat} (hx6 : am_SH[x6]? = some (.inl 4)) {x7 : Int32} {x8 : Int32} {x9 : Int32} {x10 : Int32} {l11 : Option Value} {l12 : Option Value} (q : (am_in x7 20 = true) ∧ (if (I (x6 + 4) (Int32.toNatClampNeg x7)) ≤ x10 then (am_mth d 136 [.ref 145, .int x8, .int ((I 145 12) - 1)] (am_SH, I, J, Pf) (am_af sc d 133 191 [some (.ref 145), l1, l2, some (.int x3), some (.int x4), some (.int x5), some (.ref x6), some (.int x7), some (.int x8), some (.int x9), some (.int x10), l11, l12] [.int ((I 145 12) - 1), .int x8, .ref 145] [] (am_SH, I, J, Pf) k n true P)) else (am_go sc d 133 (88, [some (.ref 145), l1, l2, some (.int x3), some (.int x4), some (.int x5), some (.ref x6), some (.int x7), some (.int x8), some (.int x9), some (.int x10), some (.int ((x7 * 4) + x10)), some (.int x9)], [], (am_SH, I, J, Pf), k, n) P))) : am_go sc d 133 (62, [some (.ref 145), l1, l2, some (.int x3), some (.int x4), some (.int x5), some (.ref x6), some (.int x7), some (.int x8), some (.int x9), some (.int x10), l11, l12], [], (am_SH, I, J, Pf), k, n) P := by
  refine am_s_iload rfl dc133_3.2.2.2 ?_
  refine am_s_aload rfl dc133_4.1.1.1 ?_
  refine am_s_getR (r := x6 + 4) dc133_4.1.1.2 rfl hx6 rfl (am_r4_5 hp hx6) ?_
  refine am_s_iload rfl dc133_4.1.2.1 ?_
  refine am_x_iaload (x := I (x6 + 4) (Int32.toNatClampNeg x7)) dc133_4.1.2.2 (am_h4_5 hx6) (q.1) rfl rfl ?_
  refine am_s_ic_ge dc133_4.2.1.1 rfl (fun c1 => ?_) (fun c1 => ?_)
  · refine am_s_aload_n rfl dc133_11.1.1.2 ?_
    refine am_s_iload rfl dc133_11.1.2.1 ?_
    refine am_s_aload_n rfl dc133_11.1.2.2 ?_
    refine am_x_getI (x := I 145 12) dc133_11.2.1.1 rfl rfl (Or.inl rfl) rfl ?_
    refine am_s_iconst am_cc1 dc133_11.2.1.2 ?_
    refine am_s_isub dc133_11.2.2.1 ?_
    exact am_s_virtual true dc133_11.2.2.2 rfl (by decide) rfl rfl rfl ((vi_t q.2 c1))
  · refine am_s_iload rfl dc133_4.2.1.2 ?_
    refine am_s_iconst am_cc4 dc133_4.2.2.1 ?_
    refine am_s_imul dc133_4.2.2.2 ?_
    refine am_s_iload rfl dc133_5.1.1.1 ?_
    refine am_s_iadd dc133_5.1.1.2 ?_
    refine am_s_istore (ls' := [some (.ref 145), l1, l2, some (.int x3), some (.int x4), some (.int x5), some (.ref x6), some (.int x7), some (.int x8), some (.int x9), some (.int x10), some (.int ((x7 * 4) + x10)), l12]) rfl rfl dc133_5.1.2.1 ?_
    refine am_s_iload rfl dc133_5.1.2.2 ?_
    refine am_s_istore (ls' := [some (.ref 145), l1, l2, some (.int x3), some (.int x4), some (.int x5), some (.ref x6), some (.int x7), some (.int x8), some (.int x9), some (.int x10), some (.int ((x7 * 4) + x10)), some (.int x9)]) rfl rfl dc133_5.2.1.1 ?_
    exact (vi_f q.2 c1)
theorem v133_88 {sc : Option (Nat × (Nat → Int32))} {d k n : Nat} {P : am_O → Prop} {I : am_I} {J : am_J} {Pf : am_R} (hp : am_PF Pf) {l1 : Option Value} {l2 : Option Value} {x3 : Int32} {x4 : Int32} {x5 : Int32} {x6 : Nat} (hx6 : am_SH[x6]? = some (.inl 4)) {x7 : Int32} {x8 : Int32} {x9 : Int32} {x10 : Int32} {x11 : Int32} {x12 : Int32} (q : (if x3 ≤ x12 then (am_go sc d 133 (118, [some (.ref 145), l1, l2, some (.int x3), some (.int x4), some (.int x5), some (.ref x6), some (.int x7), some (.int x8), some (.int x9), some (.int x10), some (.int x11), some (.int x12)], [], (am_SH, I, J, Pf), k, n) P) else (am_mth d 135 [.ref 145, .int x7, .int x10, .int x9, .int x12, .int x3, .int x4] (am_SH, I, J, Pf) (am_af sc d 133 106 [some (.ref 145), l1, l2, some (.int x3), some (.int x4), some (.int x5), some (.ref x6), some (.int x7), some (.int x8), some (.int x9), some (.int x10), some (.int x11), some (.int x12)] [.int x4, .int x3, .int x12, .int x9, .int x10, .int x7, .ref 145] [] (am_SH, I, J, Pf) k n true P)))) : am_go sc d 133 (88, [some (.ref 145), l1, l2, some (.int x3), some (.int x4), some (.int x5), some (.ref x6), some (.int x7), some (.int x8), some (.int x9), some (.int x10), some (.int x11), some (.int x12)], [], (am_SH, I, J, Pf), k, n) P := by
  refine am_s_iload rfl dc133_5.2.1.2 ?_
  refine am_s_iload_n rfl dc133_5.2.2.1 ?_
  refine am_s_ic_ge dc133_5.2.2.2 rfl (fun c1 => ?_) (fun c1 => ?_)
  · exact (vi_t q c1)
  · refine am_s_aload_n rfl dc133_6.1.1.1 ?_
    refine am_s_iload rfl dc133_6.1.1.2 ?_
    refine am_s_iload rfl dc133_6.1.2.1 ?_
    refine am_s_iload rfl dc133_6.1.2.2 ?_
    refine am_s_iload rfl dc133_6.2.1.1 ?_
    refine am_s_iload_n rfl dc133_6.2.1.2 ?_
    refine am_s_iload rfl dc133_6.2.2.1 ?_
    exact am_s_virtual true dc133_6.2.2.2 rfl (by decide) rfl rfl rfl ((vi_f q c1))
theorem v133_118 {sc : Option (Nat × (Nat → Int32))} {d k n : Nat} {P : am_O → Prop} {I : am_I} {J : am_J} {Pf : am_R} (hp : am_PF Pf) {l1 : Option Value} {l2 : Option Value} {x3 : Int32} {x4 : Int32} {x5 : Int32} {x6 : Nat} (hx6 : am_SH[x6]? = some (.inl 4)) {x7 : Int32} {x8 : Int32} {x9 : Int32} {x10 : Int32} {x11 : Int32} {x12 : Int32} (q : (am_in x11 80 = true) ∧ (if (I (x6 + 5) (Int32.toNatClampNeg x11)) = 1 then (am_in x11 80 = true) ∧ (if (((I 145 12) * 4) + 4) ≤ 2404 then (am_in ((I 145 12) * 4) 2404 = true) ∧ (am_in (((I 145 12) * 4) + 1) 2404 = true) ∧ (am_in (((I 145 12) * 4) + 2) 2404 = true) ∧ (am_in (((I 145 12) * 4) + 3) 2404 = true) ∧ (am_go sc (d + 1) 133 (148, [some (.ref 145), l1, l2, some (.int x3), some (.int x4), some (.int x5), some (.ref x6), some (.int x7), some (.int x8), some (.int x9), some (.int x10), some (.int x11), some (.int x12)], [], (am_SH, am_u (am_u (am_u (am_u (am_u I 150 (Int32.toNatClampNeg ((I 145 12) * 4)) (I (x6 + 6) (Int32.toNatClampNeg x11))) 150 (Int32.toNatClampNeg (((I 145 12) * 4) + 1)) x9) 150 (Int32.toNatClampNeg (((I 145 12) * 4) + 2)) x12) 150 (Int32.toNatClampNeg (((I 145 12) * 4) + 3)) x5) 145 12 ((I 145 12) + 1), J, Pf), k, n) P) else (am_go sc (d + 1) 133 (148, [some (.ref 145), l1, l2, some (.int x3), some (.int x4), some (.int x5), some (.ref x6), some (.int x7), some (.int x8), some (.int x9), some (.int x10), some (.int x11), some (.int x12)], [], (am_SH, I, J, Pf), k, n) P)) else (am_go sc (d + 1) 133 (148, [some (.ref 145), l1, l2, some (.int x3), some (.int x4), some (.int x5), some (.ref x6), some (.int x7), some (.int x8), some (.int x9), some (.int x10), some (.int x11), some (.int x12)], [], (am_SH, I, J, Pf), k, n) P))) : am_go sc (d + 1) 133 (118, [some (.ref 145), l1, l2, some (.int x3), some (.int x4), some (.int x5), some (.ref x6), some (.int x7), some (.int x8), some (.int x9), some (.int x10), some (.int x11), some (.int x12)], [], (am_SH, I, J, Pf), k, n) P := by
  refine am_s_aload rfl dc133_7.1.2.2 ?_
  refine am_s_getR (r := x6 + 5) dc133_7.2.1.1 rfl hx6 rfl (am_r4_6 hp hx6) ?_
  refine am_s_iload rfl dc133_7.2.1.2 ?_
  refine am_x_iaload (x := I (x6 + 5) (Int32.toNatClampNeg x11)) dc133_7.2.2.1 (am_h4_6 hx6) (q.1) rfl rfl ?_
  refine am_s_iconst am_cc1 dc133_7.2.2.2 ?_
  refine am_s_ic_ne dc133_8.1.1.1 rfl (fun c1 => ?_) (fun c1 => ?_)
  · exact (vi_f q.2 c1)
  · refine am_s_aload_n rfl dc133_8.1.1.2 ?_
    refine am_s_aload rfl dc133_8.1.2.1 ?_
    refine am_s_getR (r := x6 + 6) dc133_8.1.2.2 rfl hx6 rfl (am_r4_7 hp hx6) ?_
    refine am_s_iload rfl dc133_8.2.1.1 ?_
    refine am_x_iaload (x := I (x6 + 6) (Int32.toNatClampNeg x11)) dc133_8.2.1.2 (am_h4_7 hx6) ((vi_t q.2 (Decidable.not_not.mp c1)).1) rfl rfl ?_
    refine am_s_iload rfl dc133_8.2.2.1 ?_
    refine am_s_iload rfl dc133_8.2.2.2 ?_
    refine am_s_iload rfl dc133_9.1.1.1 ?_
    refine am_s_virtual true dc133_9.1.1.2 rfl (by decide) rfl rfl rfl (am_mth_of rfl rfl ?_)
    refine am_s_aload_n rfl dc131_0.1.1.1 ?_
    refine am_x_getI (x := I 145 12) dc131_0.1.1.2 rfl rfl (Or.inl rfl) rfl ?_
    refine am_s_iconst am_cc4 dc131_0.1.2.1 ?_
    refine am_s_imul dc131_0.1.2.2 ?_
    refine am_s_istore (ls' := [some (.ref 145), some (.int (I (x6 + 6) (Int32.toNatClampNeg x11))), some (.int x9), some (.int x12), some (.int x5), some (.int ((I 145 12) * 4))]) rfl rfl dc131_0.2.1.1 ?_
    refine am_s_iload rfl dc131_0.2.1.2 ?_
    refine am_s_iconst am_cc4 dc131_0.2.2.1 ?_
    refine am_s_iadd dc131_0.2.2.2 ?_
    refine am_s_aload_n rfl dc131_1.1.1.1 ?_
    refine am_s_getR (r := 150) dc131_1.1.1.2 rfl rfl rfl (hp _ _ _ rfl) ?_
    refine am_s_len (x := 2404) dc131_1.1.2.1 rfl rfl (by decide +kernel) ?_
    refine am_s_ic_le dc131_1.1.2.2 rfl (fun c2 => ?_) (fun c2 => ?_)
    · refine am_s_aload_n rfl dc131_1.2.1.2 ?_
      refine am_s_getR (r := 150) dc131_1.2.2.1 rfl rfl rfl (hp _ _ _ rfl) ?_
      refine am_s_iload rfl dc131_1.2.2.2 ?_
      refine am_s_iload_n rfl dc131_2.1.1.1 ?_
      refine am_s_iastore dc131_2.1.1.2 rfl ((vi_t (vi_t q.2 (Decidable.not_not.mp c1)).2 c2).1) rfl ?_
      refine am_s_aload_n rfl dc131_2.1.2.1 ?_
      refine am_s_getR (r := 150) dc131_2.1.2.2 rfl rfl rfl (hp _ _ _ rfl) ?_
      refine am_s_iload rfl dc131_2.2.1.1 ?_
      refine am_s_iconst am_cc1 dc131_2.2.1.2 ?_
      refine am_s_iadd dc131_2.2.2.1 ?_
      refine am_s_iload_n rfl dc131_2.2.2.2 ?_
      refine am_s_iastore dc131_3.1.1.1 rfl ((vi_t (vi_t q.2 (Decidable.not_not.mp c1)).2 c2).2.1) rfl ?_
      refine am_s_aload_n rfl dc131_3.1.1.2 ?_
      refine am_s_getR (r := 150) dc131_3.1.2.1 rfl rfl rfl (hp _ _ _ rfl) ?_
      refine am_s_iload rfl dc131_3.1.2.2 ?_
      refine am_s_iconst am_cc2 dc131_3.2.1.1 ?_
      refine am_s_iadd dc131_3.2.1.2 ?_
      refine am_s_iload_n rfl dc131_3.2.2.1 ?_
      refine am_s_iastore dc131_3.2.2.2 rfl ((vi_t (vi_t q.2 (Decidable.not_not.mp c1)).2 c2).2.2.1) rfl ?_
      refine am_s_aload_n rfl dc131_4.1.1.1 ?_
      refine am_s_getR (r := 150) dc131_4.1.1.2 rfl rfl rfl (hp _ _ _ rfl) ?_
      refine am_s_iload rfl dc131_4.1.2.1 ?_
      refine am_s_iconst am_cc3 dc131_4.1.2.2 ?_
      refine am_s_iadd dc131_4.2.1.1 ?_
      refine am_s_iload rfl dc131_4.2.1.2 ?_
      refine am_s_iastore dc131_4.2.2.1 rfl ((vi_t (vi_t q.2 (Decidable.not_not.mp c1)).2 c2).2.2.2.1) rfl ?_
      refine am_s_aload_n rfl dc131_4.2.2.2 ?_
      refine am_s_dup rfl dc131_5.1.1 ?_
      refine am_x_getI (x := I 145 12) dc131_5.1.2.1 rfl rfl (Or.inl rfl) rfl ?_
      refine am_s_iconst am_cc1 dc131_5.1.2.2 ?_
      refine am_s_iadd dc131_5.2.1 ?_
      refine am_s_putI dc131_5.2.2.1 rfl rfl rfl rfl ?_
      refine am_s_return dc131_5.2.2.2 rfl (am_bkV ?_)
      exact (vi_t (vi_t q.2 (Decidable.not_not.mp c1)).2 c2).2.2.2.2
    · refine am_s_return dc131_1.2.1.1 rfl (am_bkV ?_)
      exact (vi_f (vi_t q.2 (Decidable.not_not.mp c1)).2 c2)
theorem v133_148 {sc : Option (Nat × (Nat → Int32))} {d k n : Nat} {P : am_O → Prop} {I : am_I} {J : am_J} {Pf : am_R} (hp : am_PF Pf) {l1 : Option Value} {l2 : Option Value} {x3 : Int32} {x4 : Int32} {x5 : Int32} {x6 : Nat} (hx6 : am_SH[x6]? = some (.inl 4)) {x7 : Int32} {x8 : Int32} {l9 : Option Value} {x10 : Int32} {l11 : Option Value} {x12 : Int32} (q : (am_in x7 20 = true) ∧ (if (I (x6 + 3) (Int32.toNatClampNeg x7)) = 0 then (am_go sc d 133 (62, [some (.ref 145), l1, l2, some (.int x3), some (.int x4), some (.int x5), some (.ref x6), some (.int x7), some (.int x8), some (.int x12), some (.int (x10 + 1)), l11, some (.int x12)], [], (am_SH, I, J, Pf), k, n) P) else (am_in x12 25 = true) ∧ (am_go sc d 133 (62, [some (.ref 145), l1, l2, some (.int x3), some (.int x4), some (.int x5), some (.ref x6), some (.int x7), some (.int x8), some (.int (I 137 (Int32.toNatClampNeg x12))), some (.int (x10 + 1)), l11, some (.int x12)], [], (am_SH, I, J, Pf), k, n) P))) : am_go sc d 133 (148, [some (.ref 145), l1, l2, some (.int x3), some (.int x4), some (.int x5), some (.ref x6), some (.int x7), some (.int x8), l9, some (.int x10), l11, some (.int x12)], [], (am_SH, I, J, Pf), k, n) P := by
  refine am_s_aload rfl dc133_9.1.2.1 ?_
  refine am_s_getR (r := x6 + 3) dc133_9.1.2.2 rfl hx6 rfl (am_r4_4 hp hx6) ?_
  refine am_s_iload rfl dc133_9.2.1.1 ?_
  refine am_x_baload (x := I (x6 + 3) (Int32.toNatClampNeg x7)) dc133_9.2.1.2 (am_h4_4 hx6) (q.1) rfl rfl ?_
  refine am_s_if_eq dc133_9.2.2.1 rfl (fun c1 => ?_) (fun c1 => ?_)
  · refine am_s_iload rfl dc133_10.2.1.2 ?_
    refine am_s_istore (ls' := [some (.ref 145), l1, l2, some (.int x3), some (.int x4), some (.int x5), some (.ref x6), some (.int x7), some (.int x8), some (.int x12), some (.int x10), l11, some (.int x12)]) rfl rfl dc133_10.2.2.1 ?_
    refine am_s_iinc (ls' := [some (.ref 145), l1, l2, some (.int x3), some (.int x4), some (.int x5), some (.ref x6), some (.int x7), some (.int x8), some (.int x12), some (.int (x10 + 1)), l11, some (.int x12)]) am_cc1 rfl rfl dc133_10.2.2.2 ?_
    refine am_s_goto rfl dc133_11.1.1.1 ?_
    exact (vi_t q.2 c1)
  · refine am_s_aload_n rfl dc133_9.2.2.2 ?_
    refine am_s_getR (r := 135) dc133_10.1.1.1 rfl rfl rfl (hp _ _ _ rfl) ?_
    refine am_s_getR (r := 137) dc133_10.1.1.2 rfl rfl rfl (hp _ _ _ rfl) ?_
    refine am_s_iload rfl dc133_10.1.2.1 ?_
    refine am_x_iaload (x := I 137 (Int32.toNatClampNeg x12)) dc133_10.1.2.2 rfl ((vi_f q.2 c1).1) rfl rfl ?_
    refine am_s_goto rfl dc133_10.2.1.1 ?_
    refine am_s_istore (ls' := [some (.ref 145), l1, l2, some (.int x3), some (.int x4), some (.int x5), some (.ref x6), some (.int x7), some (.int x8), some (.int (I 137 (Int32.toNatClampNeg x12))), some (.int x10), l11, some (.int x12)]) rfl rfl dc133_10.2.2.1 ?_
    refine am_s_iinc (ls' := [some (.ref 145), l1, l2, some (.int x3), some (.int x4), some (.int x5), some (.ref x6), some (.int x7), some (.int x8), some (.int (I 137 (Int32.toNatClampNeg x12))), some (.int (x10 + 1)), l11, some (.int x12)]) am_cc1 rfl rfl dc133_10.2.2.2 ?_
    refine am_s_goto rfl dc133_11.1.1.1 ?_
    exact (vi_f q.2 c1).2
theorem v133_44 {sc : Option (Nat × (Nat → Int32))} {d k n : Nat} {P : am_O → Prop} {I : am_I} {J : am_J} {Pf : am_R} (hp : am_PF Pf) {x1 : Int32} {x2 : Int32} {x3 : Int32} {x4 : Int32} {x5 : Int32} {x6 : Nat} (hx6 : am_SH[x6]? = some (.inl 4)) {x7 : Int32} {l8 : Option Value} {l9 : Option Value} {l10 : Option Value} {l11 : Option Value} {l12 : Option Value} {s0 : Int32} (q : (if s0 = 0 then (am_go sc d 133 (12, [some (.ref 145), some (.int x1), some (.int x2), some (.int x3), some (.int x4), some (.int x5), some (.ref x6), some (.int (x7 + 1)), l8, l9, l10, l11, l12], [], (am_SH, I, J, Pf), k, n) P) else (am_go sc d 133 (62, [some (.ref 145), some (.int x1), some (.int x2), some (.int x3), some (.int x4), some (.int x5), some (.ref x6), some (.int x7), some (.int (I 145 12)), some (.int x2), some (.int 0), l11, l12], [], (am_SH, I, J, Pf), k, n) P))) : am_go sc d 133 (44, [some (.ref 145), some (.int x1), some (.int x2), some (.int x3), some (.int x4), some (.int x5), some (.ref x6), some (.int x7), l8, l9, l10, l11, l12], [.int s0], (am_SH, I, J, Pf), k, n) P := by
  refine am_s_if_ne dc133_2.2.2.1 rfl (fun c1 => ?_) (fun c1 => ?_)
  · refine am_s_aload_n rfl dc133_3.1.1.1 ?_
    refine am_x_getI (x := I 145 12) dc133_3.1.1.2 rfl rfl (Or.inl rfl) rfl ?_
    refine am_s_istore (ls' := [some (.ref 145), some (.int x1), some (.int x2), some (.int x3), some (.int x4), some (.int x5), some (.ref x6), some (.int x7), some (.int (I 145 12)), l9, l10, l11, l12]) rfl rfl dc133_3.1.2.1 ?_
    refine am_s_iload_n rfl dc133_3.1.2.2 ?_
    refine am_s_istore (ls' := [some (.ref 145), some (.int x1), some (.int x2), some (.int x3), some (.int x4), some (.int x5), some (.ref x6), some (.int x7), some (.int (I 145 12)), some (.int x2), l10, l11, l12]) rfl rfl dc133_3.2.1.1 ?_
    refine am_s_iconst am_cc0 dc133_3.2.1.2 ?_
    refine am_s_istore (ls' := [some (.ref 145), some (.int x1), some (.int x2), some (.int x3), some (.int x4), some (.int x5), some (.ref x6), some (.int x7), some (.int (I 145 12)), some (.int x2), some (.int 0), l11, l12]) rfl rfl dc133_3.2.2.1 ?_
    exact (vi_f q c1)
  · refine am_s_goto rfl dc133_2.2.2.2 ?_
    refine am_s_iinc (ls' := [some (.ref 145), some (.int x1), some (.int x2), some (.int x3), some (.int x4), some (.int x5), some (.ref x6), some (.int (x7 + 1)), l8, l9, l10, l11, l12]) am_cc1 rfl rfl dc133_12.1.2 ?_
    refine am_s_goto rfl dc133_12.2.1 ?_
    exact (vi_t q (Decidable.not_not.mp c1))
theorem v133_194 {sc : Option (Nat × (Nat → Int32))} {d k n : Nat} {P : am_O → Prop} {I : am_I} {J : am_J} {Pf : am_R} (hp : am_PF Pf) {l0 : Option Value} {l1 : Option Value} {l2 : Option Value} {l3 : Option Value} {l4 : Option Value} {l5 : Option Value} {l6 : Option Value} {l7 : Option Value} {l8 : Option Value} {l9 : Option Value} {l10 : Option Value} {l11 : Option Value} {l12 : Option Value} (q : (P (.inl none, (am_SH, I, J, Pf), k, n))) : am_go sc d 133 (194, [l0, l1, l2, l3, l4, l5, l6, l7, l8, l9, l10, l11, l12], [], (am_SH, I, J, Pf), k, n) P := by
  exact am_s_return dc133_12.1.1 rfl (q)
theorem v133_109 {sc : Option (Nat × (Nat → Int32))} {d k n : Nat} {P : am_O → Prop} {I : am_I} {J : am_J} {Pf : am_R} (hp : am_PF Pf) {l1 : Option Value} {l2 : Option Value} {x3 : Int32} {x4 : Int32} {x5 : Int32} {x6 : Nat} (hx6 : am_SH[x6]? = some (.inl 4)) {x7 : Int32} {x8 : Int32} {x9 : Int32} {x10 : Int32} {x11 : Int32} {x12 : Int32} {s0 : Int32} (q : (if s0 = 0 then (am_go sc d 133 (88, [some (.ref 145), l1, l2, some (.int x3), some (.int x4), some (.int x5), some (.ref x6), some (.int x7), some (.int x8), some (.int x9), some (.int x10), some (.int x11), some (.int (x12 + 1))], [], (am_SH, I, J, Pf), k, n) P) else (am_go sc d 133 (118, [some (.ref 145), l1, l2, some (.int x3), some (.int x4), some (.int x5), some (.ref x6), some (.int x7), some (.int x8), some (.int x9), some (.int x10), some (.int x11), some (.int x12)], [], (am_SH, I, J, Pf), k, n) P))) : am_go sc d 133 (109, [some (.ref 145), l1, l2, some (.int x3), some (.int x4), some (.int x5), some (.ref x6), some (.int x7), some (.int x8), some (.int x9), some (.int x10), some (.int x11), some (.int x12)], [.int s0], (am_SH, I, J, Pf), k, n) P := by
  refine am_s_if_ne dc133_7.1.1.1 rfl (fun c1 => ?_) (fun c1 => ?_)
  · exact (vi_f q c1)
  · refine am_s_iinc (ls' := [some (.ref 145), l1, l2, some (.int x3), some (.int x4), some (.int x5), some (.ref x6), some (.int x7), some (.int x8), some (.int x9), some (.int x10), some (.int x11), some (.int (x12 + 1))]) am_cc1 rfl rfl dc133_7.1.1.2 ?_
    refine am_s_goto rfl dc133_7.1.2.1 ?_
    exact (vi_t q (Decidable.not_not.mp c1))
-- findStarts (IIII)Z
theorem v134_0 {sc : Option (Nat × (Nat → Int32))} {d k n : Nat} {P : am_O → Prop} {I : am_I} {J : am_J} {Pf : am_R} (hp : am_PF Pf) {x1 : Int32} {x2 : Int32} {x3 : Int32} {x4 : Int32} {l5 : Option Value} {l6 : Option Value} {l7 : Option Value} {l8 : Option Value} {l9 : Option Value} (q : ∃ r112_0x1 : Nat, (Pf 112 0 = some r112_0x1) ∧ (am_SH[r112_0x1]? = some (.inl 4)) ∧ (am_in x1 20 = true) ∧ (am_go sc d 134 (20, [some (.ref 145), some (.int x1), some (.int x2), some (.int x3), some (.int x4), some (.int (I (r112_0x1 + 4) (Int32.toNatClampNeg x1))), some (.int ((I (r112_0x1 + 4) (Int32.toNatClampNeg x1)) - 1)), l7, l8, l9], [], (am_SH, I, J, Pf), k, n) P)) : am_go sc d 134 (0, [some (.ref 145), some (.int x1), some (.int x2), some (.int x3), some (.int x4), l5, l6, l7, l8, l9], [], (am_SH, I, J, Pf), k, n) P := by
  refine am_s_aload_n rfl dc134_0.1.1.1 ?_
  refine am_s_getR (r := 112) dc134_0.1.1.2 rfl rfl rfl (hp _ _ _ rfl) ?_
  obtain ⟨r112_0x1, qx1⟩ := q
  refine am_s_getR (r := r112_0x1) dc134_0.1.2.1 rfl rfl rfl (qx1.1) ?_
  refine am_s_getR (r := r112_0x1 + 4) dc134_0.1.2.2 rfl (qx1.2.1) rfl (am_r4_5 hp (qx1.2.1)) ?_
  refine am_s_iload_n rfl dc134_0.2.1.1 ?_
  refine am_x_iaload (x := I (r112_0x1 + 4) (Int32.toNatClampNeg x1)) dc134_0.2.1.2 (am_h4_5 (qx1.2.1)) (qx1.2.2.1) rfl rfl ?_
  refine am_s_istore (ls' := [some (.ref 145), some (.int x1), some (.int x2), some (.int x3), some (.int x4), some (.int (I (r112_0x1 + 4) (Int32.toNatClampNeg x1))), l6, l7, l8, l9]) rfl rfl dc134_0.2.2.1 ?_
  refine am_s_iload rfl dc134_0.2.2.2 ?_
  refine am_s_iconst am_cc1 dc134_1.1.1.1 ?_
  refine am_s_isub dc134_1.1.1.2 ?_
  refine am_s_istore (ls' := [some (.ref 145), some (.int x1), some (.int x2), some (.int x3), some (.int x4), some (.int (I (r112_0x1 + 4) (Int32.toNatClampNeg x1))), some (.int ((I (r112_0x1 + 4) (Int32.toNatClampNeg x1)) - 1)), l7, l8, l9]) rfl rfl dc134_1.1.2.1 ?_
  exact qx1.2.2.2
theorem v134_20 {sc : Option (Nat × (Nat → Int32))} {d k n : Nat} {P : am_O → Prop} {I : am_I} {J : am_J} {Pf : am_R} (hp : am_PF Pf) {x1 : Int32} {x2 : Int32} {x3 : Int32} {x4 : Int32} {x5 : Int32} {x6 : Int32} {l7 : Option Value} {l8 : Option Value} {l9 : Option Value} (q : (if x6 < 0 then (if x5 = 0 then (if x2 = x3 then (P (.inl (some (.int 1)), (am_SH, I, J, Pf), k, n)) else (P (.inl (some (.int 0)), (am_SH, I, J, Pf), k, n))) else (if ((UInt32.toInt32 (Int32.toUInt32 (I 151 0) >>> (Int32.toUInt32 x2 &&& Int32.toUInt32 31))) &&& 1) = 0 then (P (.inl (some (.int 0)), (am_SH, I, J, Pf), k, n)) else (P (.inl (some (.int 1)), (am_SH, I, J, Pf), k, n)))) else (am_in x6 4 = true) ∧ (am_go sc d 134 (36, [some (.ref 145), some (.int x1), some (.int x2), some (.int x3), some (.int x4), some (.int x5), some (.int x6), some (.int x2), l8, l9], [], (am_SH, am_u I 151 (Int32.toNatClampNeg x6) 0, J, Pf), k, n) P))) : am_go sc d 134 (20, [some (.ref 145), some (.int x1), some (.int x2), some (.int x3), some (.int x4), some (.int x5), some (.int x6), l7, l8, l9], [], (am_SH, I, J, Pf), k, n) P := by
  refine am_s_iload rfl dc134_1.1.2.2 ?_
  refine am_s_if_lt dc134_1.2.1.1 rfl (fun c1 => ?_) (fun c1 => ?_)
  · refine am_s_iload rfl dc134_7.1.2.2 ?_
    refine am_s_if_ne dc134_7.2.1.1 rfl (fun c2 => ?_) (fun c2 => ?_)
    · refine am_s_aload_n rfl dc134_8.2.1.1 ?_
      refine am_s_getR (r := 151) dc134_8.2.1.2 rfl rfl rfl (hp _ _ _ rfl) ?_
      refine am_s_iconst am_cc0 dc134_8.2.2.1 ?_
      refine am_x_iaload (x := I 151 0) dc134_8.2.2.2 rfl (by decide +kernel) am_cN0 rfl ?_
      refine am_s_iload_n rfl dc134_9.1.1.1 ?_
      refine am_s_iushr dc134_9.1.1.2 ?_
      refine am_s_iconst am_cc1 dc134_9.1.2.1 ?_
      refine am_s_iand dc134_9.1.2.2 ?_
      refine am_s_if_eq dc134_9.2.1.1 rfl (fun c3 => ?_) (fun c3 => ?_)
      · refine am_s_iconst am_cc0 dc134_9.2.2.2 ?_
        exact am_s_zreturn dc134_10 rfl (by decide) ((vi_t (vi_f (vi_t q c1) c2) c3))
      · refine am_s_iconst am_cc1 dc134_9.2.1.2 ?_
        refine am_s_goto rfl dc134_9.2.2.1 ?_
        exact am_s_zreturn dc134_10 rfl (by decide) ((vi_f (vi_f (vi_t q c1) c2) c3))
    · refine am_s_iload_n rfl dc134_7.2.1.2 ?_
      refine am_s_iload_n rfl dc134_7.2.2.1 ?_
      refine am_s_ic_ne dc134_7.2.2.2 rfl (fun c3 => ?_) (fun c3 => ?_)
      · refine am_s_iconst am_cc0 dc134_8.1.2.1 ?_
        refine am_s_goto rfl dc134_8.1.2.2 ?_
        exact am_s_zreturn dc134_10 rfl (by decide) ((vi_f (vi_t (vi_t q c1) (Decidable.not_not.mp c2)) c3))
      · refine am_s_iconst am_cc1 dc134_8.1.1.1 ?_
        refine am_s_goto rfl dc134_8.1.1.2 ?_
        exact am_s_zreturn dc134_10 rfl (by decide) ((vi_t (vi_t (vi_t q c1) (Decidable.not_not.mp c2)) (Decidable.not_not.mp c3)))
  · refine am_s_aload_n rfl dc134_1.2.1.2 ?_
    refine am_s_getR (r := 151) dc134_1.2.2.1 rfl rfl rfl (hp _ _ _ rfl) ?_
    refine am_s_iload rfl dc134_1.2.2.2 ?_
    refine am_s_iconst am_cc0 dc134_2.1.1.1 ?_
    refine am_s_iastore dc134_2.1.1.2 rfl ((vi_f q c1).1) rfl ?_
    refine am_s_iload_n rfl dc134_2.1.2.1 ?_
    refine am_s_istore (ls' := [some (.ref 145), some (.int x1), some (.int x2), some (.int x3), some (.int x4), some (.int x5), some (.int x6), some (.int x2), l8, l9]) rfl rfl dc134_2.1.2.2 ?_
    exact (vi_f q c1).2
theorem v134_36 {sc : Option (Nat × (Nat → Int32))} {d k n : Nat} {P : am_O → Prop} {I : am_I} {J : am_J} {Pf : am_R} (hp : am_PF Pf) {x1 : Int32} {x2 : Int32} {x3 : Int32} {x4 : Int32} {x5 : Int32} {x6 : Int32} {x7 : Int32} {l8 : Option Value} {l9 : Option Value} (q : (if x3 < x7 then (am_go sc d 134 (20, [some (.ref 145), some (.int x1), some (.int x2), some (.int x3), some (.int x4), some (.int x5), some (.int (x6 + (-1))), some (.int x7), l8, l9], [], (am_SH, I, J, Pf), k, n) P) else (am_go sc d 134 (49, [some (.ref 145), some (.int x1), some (.int x2), some (.int x3), some (.int x4), some (.int x5), some (.int x6), some (.int x7), some (.int 0), some (.int x7)], [], (am_SH, I, J, Pf), k, n) P))) : am_go sc d 134 (36, [some (.ref 145), some (.int x1), some (.int x2), some (.int x3), some (.int x4), some (.int x5), some (.int x6), some (.int x7), l8, l9], [], (am_SH, I, J, Pf), k, n) P := by
  refine am_s_iload rfl dc134_2.2.1.1 ?_
  refine am_s_iload_n rfl dc134_2.2.1.2 ?_
  refine am_s_ic_gt dc134_2.2.2.1 rfl (fun c1 => ?_) (fun c1 => ?_)
  · refine am_s_iinc (ls' := [some (.ref 145), some (.int x1), some (.int x2), some (.int x3), some (.int x4), some (.int x5), some (.int (x6 + (-1))), some (.int x7), l8, l9]) am_ccm1 rfl rfl dc134_7.1.1.2 ?_
    refine am_s_goto rfl dc134_7.1.2.1 ?_
    exact (vi_t q c1)
  · refine am_s_iconst am_cc0 dc134_2.2.2.2 ?_
    refine am_s_istore (ls' := [some (.ref 145), some (.int x1), some (.int x2), some (.int x3), some (.int x4), some (.int x5), some (.int x6), some (.int x7), some (.int 0), l9]) rfl rfl dc134_3.1.1.1 ?_
    refine am_s_iload rfl dc134_3.1.1.2 ?_
    refine am_s_istore (ls' := [some (.ref 145), some (.int x1), some (.int x2), some (.int x3), some (.int x4), some (.int x5), some (.int x6), some (.int x7), some (.int 0), some (.int x7)]) rfl rfl dc134_3.1.2.1 ?_
    exact (vi_f q c1)
theorem v134_49 {sc : Option (Nat × (Nat → Int32))} {d k n : Nat} {P : am_O → Prop} {I : am_I} {J : am_J} {Pf : am_R} (hp : am_PF Pf) {x1 : Int32} {x2 : Int32} {x3 : Int32} {x4 : Int32} {x5 : Int32} {x6 : Int32} {x7 : Int32} {x8 : Int32} {x9 : Int32} (q : (if x3 < x9 then (am_go sc d 134 (82, [some (.ref 145), some (.int x1), some (.int x2), some (.int x3), some (.int x4), some (.int x5), some (.int x6), some (.int x7), some (.int x8), some (.int x9)], [], (am_SH, I, J, Pf), k, n) P) else (if x8 = 0 then (am_mth d 135 [.ref 145, .int x1, .int x6, .int x7, .int x9, .int x3, .int x4] (am_SH, I, J, Pf) (am_af sc d 134 71 [some (.ref 145), some (.int x1), some (.int x2), some (.int x3), some (.int x4), some (.int x5), some (.int x6), some (.int x7), some (.int x8), some (.int x9)] [.int x4, .int x3, .int x9, .int x7, .int x6, .int x1, .ref 145] [] (am_SH, I, J, Pf) k n true P)) else (am_go sc d 134 (82, [some (.ref 145), some (.int x1), some (.int x2), some (.int x3), some (.int x4), some (.int x5), some (.int x6), some (.int x7), some (.int x8), some (.int x9)], [], (am_SH, I, J, Pf), k, n) P)))) : am_go sc d 134 (49, [some (.ref 145), some (.int x1), some (.int x2), some (.int x3), some (.int x4), some (.int x5), some (.int x6), some (.int x7), some (.int x8), some (.int x9)], [], (am_SH, I, J, Pf), k, n) P := by
  refine am_s_iload rfl dc134_3.1.2.2 ?_
  refine am_s_iload_n rfl dc134_3.2.1.1 ?_
  refine am_s_ic_gt dc134_3.2.1.2 rfl (fun c1 => ?_) (fun c1 => ?_)
  · exact (vi_t q c1)
  · refine am_s_iload rfl dc134_3.2.2.1 ?_
    refine am_s_if_ne dc134_3.2.2.2 rfl (fun c2 => ?_) (fun c2 => ?_)
    · exact (vi_f (vi_f q c1) c2)
    · refine am_s_aload_n rfl dc134_4.1.1.1 ?_
      refine am_s_iload_n rfl dc134_4.1.1.2 ?_
      refine am_s_iload rfl dc134_4.1.2.1 ?_
      refine am_s_iload rfl dc134_4.1.2.2 ?_
      refine am_s_iload rfl dc134_4.2.1.1 ?_
      refine am_s_iload_n rfl dc134_4.2.1.2 ?_
      refine am_s_iload rfl dc134_4.2.2.1 ?_
      exact am_s_virtual true dc134_4.2.2.2 rfl (by decide) rfl rfl rfl ((vi_t (vi_f q c1) (Decidable.not_not.mp c2)))
theorem v134_82 {sc : Option (Nat × (Nat → Int32))} {d k n : Nat} {P : am_O → Prop} {I : am_I} {J : am_J} {Pf : am_R} (hp : am_PF Pf) {x1 : Int32} {x2 : Int32} {x3 : Int32} {x4 : Int32} {x5 : Int32} {x6 : Int32} {x7 : Int32} {x8 : Int32} {l9 : Option Value} (q : (if x8 = 0 then (am_go sc d 134 (36, [some (.ref 145), some (.int x1), some (.int x2), some (.int x3), some (.int x4), some (.int x5), some (.int x6), some (.int (x7 + 1)), some (.int x8), l9], [], (am_SH, I, J, Pf), k, n) P) else (am_in x6 4 = true) ∧ (am_in x6 4 = true) ∧ (am_go sc d 134 (36, [some (.ref 145), some (.int x1), some (.int x2), some (.int x3), some (.int x4), some (.int x5), some (.int x6), some (.int (x7 + 1)), some (.int x8), l9], [], (am_SH, am_u I 151 (Int32.toNatClampNeg x6) ((I 151 (Int32.toNatClampNeg x6)) ||| ((1 : Int32) <<< (x7 &&& 31))), J, Pf), k, n) P))) : am_go sc d 134 (82, [some (.ref 145), some (.int x1), some (.int x2), some (.int x3), some (.int x4), some (.int x5), some (.int x6), some (.int x7), some (.int x8), l9], [], (am_SH, I, J, Pf), k, n) P := by
  refine am_s_iload rfl dc134_5.1.2.2 ?_
  refine am_s_if_eq dc134_5.2.1.1 rfl (fun c1 => ?_) (fun c1 => ?_)
  · refine am_s_iinc (ls' := [some (.ref 145), some (.int x1), some (.int x2), some (.int x3), some (.int x4), some (.int x5), some (.int x6), some (.int (x7 + 1)), some (.int x8), l9]) am_cc1 rfl rfl dc134_6.2.2.2 ?_
    refine am_s_goto rfl dc134_7.1.1.1 ?_
    exact (vi_t q c1)
  · refine am_s_aload_n rfl dc134_5.2.1.2 ?_
    refine am_s_getR (r := 151) dc134_5.2.2.1 rfl rfl rfl (hp _ _ _ rfl) ?_
    refine am_s_iload rfl dc134_5.2.2.2 ?_
    refine am_s_dup2 rfl rfl dc134_6.1.1.1 ?_
    refine am_x_iaload (x := I 151 (Int32.toNatClampNeg x6)) dc134_6.1.1.2 rfl ((vi_f q c1).1) rfl rfl ?_
    refine am_s_iconst am_cc1 dc134_6.1.2.1 ?_
    refine am_s_iload rfl dc134_6.1.2.2 ?_
    refine am_s_ishl dc134_6.2.1.1 ?_
    refine am_s_ior dc134_6.2.1.2 ?_
    refine am_s_iastore dc134_6.2.2.1 rfl ((vi_f q c1).2.1) rfl ?_
    refine am_s_iinc (ls' := [some (.ref 145), some (.int x1), some (.int x2), some (.int x3), some (.int x4), some (.int x5), some (.int x6), some (.int (x7 + 1)), some (.int x8), l9]) am_cc1 rfl rfl dc134_6.2.2.2 ?_
    refine am_s_goto rfl dc134_7.1.1.1 ?_
    exact (vi_f q c1).2.2
theorem v134_74 {sc : Option (Nat × (Nat → Int32))} {d k n : Nat} {P : am_O → Prop} {I : am_I} {J : am_J} {Pf : am_R} (hp : am_PF Pf) {x1 : Int32} {x2 : Int32} {x3 : Int32} {x4 : Int32} {x5 : Int32} {x6 : Int32} {x7 : Int32} {l8 : Option Value} {x9 : Int32} {s0 : Int32} (q : (am_go sc d 134 (49, [some (.ref 145), some (.int x1), some (.int x2), some (.int x3), some (.int x4), some (.int x5), some (.int x6), some (.int x7), some (.int s0), some (.int (x9 + 1))], [], (am_SH, I, J, Pf), k, n) P)) : am_go sc d 134 (74, [some (.ref 145), some (.int x1), some (.int x2), some (.int x3), some (.int x4), some (.int x5), some (.int x6), some (.int x7), l8, some (.int x9)], [.int s0], (am_SH, I, J, Pf), k, n) P := by
  refine am_s_istore (ls' := [some (.ref 145), some (.int x1), some (.int x2), some (.int x3), some (.int x4), some (.int x5), some (.int x6), some (.int x7), some (.int s0), some (.int x9)]) rfl rfl dc134_5.1.1.1 ?_
  refine am_s_iinc (ls' := [some (.ref 145), some (.int x1), some (.int x2), some (.int x3), some (.int x4), some (.int x5), some (.int x6), some (.int x7), some (.int s0), some (.int (x9 + 1))]) am_cc1 rfl rfl dc134_5.1.1.2 ?_
  refine am_s_goto rfl dc134_5.1.2.1 ?_
  exact q
-- goesOn (IIIIII)Z
theorem v135_0 {sc : Option (Nat × (Nat → Int32))} {d k n : Nat} {P : am_O → Prop} {I : am_I} {J : am_J} {Pf : am_R} (hp : am_PF Pf) {x1 : Int32} {x2 : Int32} {x3 : Int32} {x4 : Int32} {x5 : Int32} {x6 : Int32} {l7 : Option Value} {l8 : Option Value} (q : ∃ r112_0x1 : Nat, (Pf 112 0 = some r112_0x1) ∧ (am_SH[r112_0x1]? = some (.inl 4)) ∧ (am_in x1 20 = true) ∧ (if (x2 + 1) = (I (r112_0x1 + 4) (Int32.toNatClampNeg x1)) then (if x4 = x5 then (am_go sc d 135 (76, [some (.ref 145), some (.int x1), some (.int x2), some (.int x3), some (.int x4), some (.int x5), some (.int x6), some (.ref r112_0x1), l8], [], (am_SH, I, J, Pf), k, n) P) else (P (.inl (some (.int 0)), (am_SH, I, J, Pf), k, n))) else (am_in x1 20 = true) ∧ (if (I (r112_0x1 + 3) (Int32.toNatClampNeg x1)) = 0 then (am_in (x2 + 1) 4 = true) ∧ (if ((UInt32.toInt32 (Int32.toUInt32 (I 151 (Int32.toNatClampNeg (x2 + 1))) >>> (Int32.toUInt32 x4 &&& Int32.toUInt32 31))) &&& 1) = 0 then (P (.inl (some (.int 0)), (am_SH, I, J, Pf), k, n)) else (am_go sc d 135 (76, [some (.ref 145), some (.int x1), some (.int x2), some (.int x3), some (.int x4), some (.int x5), some (.int x6), some (.ref r112_0x1), some (.int x4)], [], (am_SH, I, J, Pf), k, n) P)) else (am_in x4 25 = true) ∧ (am_in (x2 + 1) 4 = true) ∧ (if ((UInt32.toInt32 (Int32.toUInt32 (I 151 (Int32.toNatClampNeg (x2 + 1))) >>> (Int32.toUInt32 (I 137 (Int32.toNatClampNeg x4)) &&& Int32.toUInt32 31))) &&& 1) = 0 then (P (.inl (some (.int 0)), (am_SH, I, J, Pf), k, n)) else (am_go sc d 135 (76, [some (.ref 145), some (.int x1), some (.int x2), some (.int x3), some (.int x4), some (.int x5), some (.int x6), some (.ref r112_0x1), some (.int (I 137 (Int32.toNatClampNeg x4)))], [], (am_SH, I, J, Pf), k, n) P))))) : am_go sc d 135 (0, [some (.ref 145), some (.int x1), some (.int x2), some (.int x3), some (.int x4), some (.int x5), some (.int x6), l7, l8], [], (am_SH, I, J, Pf), k, n) P := by
  refine am_s_aload_n rfl dc135_0.1.1.1 ?_
  refine am_s_getR (r := 112) dc135_0.1.1.2 rfl rfl rfl (hp _ _ _ rfl) ?_
  obtain ⟨r112_0x1, qx1⟩ := q
  refine am_s_getR (r := r112_0x1) dc135_0.1.2.1 rfl rfl rfl (qx1.1) ?_
  refine am_s_astore (ls' := [some (.ref 145), some (.int x1), some (.int x2), some (.int x3), some (.int x4), some (.int x5), some (.int x6), some (.ref r112_0x1), l8]) rfl rfl dc135_0.1.2.2 ?_
  refine am_s_iload_n rfl dc135_0.2.1.1 ?_
  refine am_s_iconst am_cc1 dc135_0.2.1.2 ?_
  refine am_s_iadd dc135_0.2.2.1 ?_
  refine am_s_aload rfl dc135_0.2.2.2 ?_
  refine am_s_getR (r := r112_0x1 + 4) dc135_1.1.1.1 rfl (qx1.2.1) rfl (am_r4_5 hp (qx1.2.1)) ?_
  refine am_s_iload_n rfl dc135_1.1.1.2 ?_
  refine am_x_iaload (x := I (r112_0x1 + 4) (Int32.toNatClampNeg x1)) dc135_1.1.2.1 (am_h4_5 (qx1.2.1)) (qx1.2.2.1) rfl rfl ?_
  refine am_s_ic_ne dc135_1.1.2.2 rfl (fun c1 => ?_) (fun c1 => ?_)
  · refine am_s_aload rfl dc135_2.1.1.2 ?_
    refine am_s_getR (r := r112_0x1 + 3) dc135_2.1.2.1 rfl (qx1.2.1) rfl (am_r4_4 hp (qx1.2.1)) ?_
    refine am_s_iload_n rfl dc135_2.1.2.2 ?_
    refine am_x_baload (x := I (r112_0x1 + 3) (Int32.toNatClampNeg x1)) dc135_2.2.1.1 (am_h4_4 (qx1.2.1)) ((vi_f qx1.2.2.2 c1).1) rfl rfl ?_
    refine am_s_if_eq dc135_2.2.1.2 rfl (fun c2 => ?_) (fun c2 => ?_)
    · refine am_s_iload rfl dc135_3.2.1.1 ?_
      refine am_s_istore (ls' := [some (.ref 145), some (.int x1), some (.int x2), some (.int x3), some (.int x4), some (.int x5), some (.int x6), some (.ref r112_0x1), some (.int x4)]) rfl rfl dc135_3.2.1.2 ?_
      refine am_s_aload_n rfl dc135_3.2.2.1 ?_
      refine am_s_getR (r := 151) dc135_3.2.2.2 rfl rfl rfl (hp _ _ _ rfl) ?_
      refine am_s_iload_n rfl dc135_4.1.1.1 ?_
      refine am_s_iconst am_cc1 dc135_4.1.1.2 ?_
      refine am_s_iadd dc135_4.1.2.1 ?_
      refine am_x_iaload (x := I 151 (Int32.toNatClampNeg (x2 + 1))) dc135_4.1.2.2 rfl ((vi_t (vi_f qx1.2.2.2 c1).2 c2).1) rfl rfl ?_
      refine am_s_iload rfl dc135_4.2.1.1 ?_
      refine am_s_iushr dc135_4.2.1.2 ?_
      refine am_s_iconst am_cc1 dc135_4.2.2.1 ?_
      refine am_s_iand dc135_4.2.2.2 ?_
      refine am_s_if_ne dc135_5.1.1.1 rfl (fun c3 => ?_) (fun c3 => ?_)
      · exact (vi_f (vi_t (vi_f qx1.2.2.2 c1).2 c2).2 c3)
      · refine am_s_iconst am_cc0 dc135_5.1.1.2 ?_
        exact am_s_zreturn dc135_5.1.2.1 rfl (by decide) ((vi_t (vi_t (vi_f qx1.2.2.2 c1).2 c2).2 (Decidable.not_not.mp c3)))
    · refine am_s_aload_n rfl dc135_2.2.2.1 ?_
      refine am_s_getR (r := 135) dc135_2.2.2.2 rfl rfl rfl (hp _ _ _ rfl) ?_
      refine am_s_getR (r := 137) dc135_3.1.1.1 rfl rfl rfl (hp _ _ _ rfl) ?_
      refine am_s_iload rfl dc135_3.1.1.2 ?_
      refine am_x_iaload (x := I 137 (Int32.toNatClampNeg x4)) dc135_3.1.2.1 rfl ((vi_f (vi_f qx1.2.2.2 c1).2 c2).1) rfl rfl ?_
      refine am_s_goto rfl dc135_3.1.2.2 ?_
      refine am_s_istore (ls' := [some (.ref 145), some (.int x1), some (.int x2), some (.int x3), some (.int x4), some (.int x5), some (.int x6), some (.ref r112_0x1), some (.int (I 137 (Int32.toNatClampNeg x4)))]) rfl rfl dc135_3.2.1.2 ?_
      refine am_s_aload_n rfl dc135_3.2.2.1 ?_
      refine am_s_getR (r := 151) dc135_3.2.2.2 rfl rfl rfl (hp _ _ _ rfl) ?_
      refine am_s_iload_n rfl dc135_4.1.1.1 ?_
      refine am_s_iconst am_cc1 dc135_4.1.1.2 ?_
      refine am_s_iadd dc135_4.1.2.1 ?_
      refine am_x_iaload (x := I 151 (Int32.toNatClampNeg (x2 + 1))) dc135_4.1.2.2 rfl ((vi_f (vi_f qx1.2.2.2 c1).2 c2).2.1) rfl rfl ?_
      refine am_s_iload rfl dc135_4.2.1.1 ?_
      refine am_s_iushr dc135_4.2.1.2 ?_
      refine am_s_iconst am_cc1 dc135_4.2.2.1 ?_
      refine am_s_iand dc135_4.2.2.2 ?_
      refine am_s_if_ne dc135_5.1.1.1 rfl (fun c3 => ?_) (fun c3 => ?_)
      · exact (vi_f (vi_f (vi_f qx1.2.2.2 c1).2 c2).2.2 c3)
      · refine am_s_iconst am_cc0 dc135_5.1.1.2 ?_
        exact am_s_zreturn dc135_5.1.2.1 rfl (by decide) ((vi_t (vi_f (vi_f qx1.2.2.2 c1).2 c2).2.2 (Decidable.not_not.mp c3)))
  · refine am_s_iload rfl dc135_1.2.1.1 ?_
    refine am_s_iload rfl dc135_1.2.1.2 ?_
    refine am_s_ic_eq dc135_1.2.2.1 rfl (fun c2 => ?_) (fun c2 => ?_)
    · exact (vi_t (vi_t qx1.2.2.2 (Decidable.not_not.mp c1)) c2)
    · refine am_s_iconst am_cc0 dc135_1.2.2.2 ?_
      exact am_s_zreturn dc135_2.1.1.1 rfl (by decide) ((vi_f (vi_t qx1.2.2.2 (Decidable.not_not.mp c1)) c2))
theorem v135_76 {sc : Option (Nat × (Nat → Int32))} {d k n : Nat} {P : am_O → Prop} {I : am_I} {J : am_J} {Pf : am_R} (hp : am_PF Pf) {x1 : Int32} {x2 : Int32} {x3 : Int32} {x4 : Int32} {l5 : Option Value} {x6 : Int32} {x7 : Nat} (hx7 : am_SH[x7]? = some (.inl 4)) {l8 : Option Value} (q : (am_mth d 16 [.ref 112, .ref 135, .int ((x1 * 4) + x2), .int x3, .ref 138] (am_SH, I, J, Pf) (am_af sc d 135 101 [some (.ref 145), some (.int x1), some (.int x2), some (.int x3), some (.int x4), l5, some (.int x6), some (.ref x7), some (.int ((x1 * 4) + x2))] [.ref 138, .int x3, .int ((x1 * 4) + x2), .ref 135, .ref 112] [] (am_SH, I, J, Pf) k n false P))) : am_go sc d 135 (76, [some (.ref 145), some (.int x1), some (.int x2), some (.int x3), some (.int x4), l5, some (.int x6), some (.ref x7), l8], [], (am_SH, I, J, Pf), k, n) P := by
  refine am_s_iload_n rfl dc135_5.1.2.2 ?_
  refine am_s_iconst am_cc4 dc135_5.2.1.1 ?_
  refine am_s_imul dc135_5.2.1.2 ?_
  refine am_s_iload_n rfl dc135_5.2.2.1 ?_
  refine am_s_iadd dc135_5.2.2.2 ?_
  refine am_s_istore (ls' := [some (.ref 145), some (.int x1), some (.int x2), some (.int x3), some (.int x4), l5, some (.int x6), some (.ref x7), some (.int ((x1 * 4) + x2))]) rfl rfl dc135_6.1.1.1 ?_
  refine am_s_aload_n rfl dc135_6.1.1.2 ?_
  refine am_s_getR (r := 112) dc135_6.1.2.1 rfl rfl rfl (hp _ _ _ rfl) ?_
  refine am_s_aload_n rfl dc135_6.1.2.2 ?_
  refine am_s_getR (r := 135) dc135_6.2.1.1 rfl rfl rfl (hp _ _ _ rfl) ?_
  refine am_s_iload rfl dc135_6.2.1.2 ?_
  refine am_s_iload_n rfl dc135_6.2.2.1 ?_
  refine am_s_aload_n rfl dc135_6.2.2.2 ?_
  refine am_s_getR (r := 135) dc135_7.1.1.1 rfl rfl rfl (hp _ _ _ rfl) ?_
  refine am_s_getR (r := 138) dc135_7.1.1.2 rfl rfl rfl (hp _ _ _ rfl) ?_
  exact am_s_virtual false dc135_7.1.2.1 rfl (by decide) rfl rfl rfl (q)
theorem v135_104 {sc : Option (Nat × (Nat → Int32))} {d k n : Nat} {P : am_O → Prop} {I : am_I} {J : am_J} {Pf : am_R} (hp : am_PF Pf) {l1 : Option Value} {l2 : Option Value} {x3 : Int32} {x4 : Int32} {l5 : Option Value} {x6 : Int32} {x7 : Nat} (hx7 : am_SH[x7]? = some (.inl 4)) {x8 : Int32} {s0 : Int32} (q : (if ((UInt32.toInt32 (Int32.toUInt32 s0 >>> (Int32.toUInt32 x4 &&& Int32.toUInt32 31))) &&& 1) = 0 then (P (.inl (some (.int 0)), (am_SH, I, J, Pf), k, n)) else (am_in x8 80 = true) ∧ (if (I (x7 + 5) (Int32.toNatClampNeg x8)) = 1 then (am_in x8 80 = true) ∧ (am_in (((((I (x7 + 6) (Int32.toNatClampNeg x8)) * 25) + x3) * 25) + x4) 5000 = true) ∧ (if x6 ≤ (I 146 (Int32.toNatClampNeg (((((I (x7 + 6) (Int32.toNatClampNeg x8)) * 25) + x3) * 25) + x4))) then (P (.inl (some (.int 0)), (am_SH, I, J, Pf), k, n)) else (P (.inl (some (.int 1)), (am_SH, I, J, Pf), k, n))) else (P (.inl (some (.int 1)), (am_SH, I, J, Pf), k, n))))) : am_go sc d 135 (104, [some (.ref 145), l1, l2, some (.int x3), some (.int x4), l5, some (.int x6), some (.ref x7), some (.int x8)], [.int s0], (am_SH, I, J, Pf), k, n) P := by
  refine am_s_iload rfl dc135_7.1.2.2 ?_
  refine am_s_iushr dc135_7.2.1.1 ?_
  refine am_s_iconst am_cc1 dc135_7.2.1.2 ?_
  refine am_s_iand dc135_7.2.2.1 ?_
  refine am_s_if_ne dc135_7.2.2.2 rfl (fun c1 => ?_) (fun c1 => ?_)
  · refine am_s_aload rfl dc135_8.1.2.1 ?_
    refine am_s_getR (r := x7 + 5) dc135_8.1.2.2 rfl hx7 rfl (am_r4_6 hp hx7) ?_
    refine am_s_iload rfl dc135_8.2.1.1 ?_
    refine am_x_iaload (x := I (x7 + 5) (Int32.toNatClampNeg x8)) dc135_8.2.1.2 (am_h4_6 hx7) ((vi_f q c1).1) rfl rfl ?_
    refine am_s_iconst am_cc1 dc135_8.2.2.1 ?_
    refine am_s_ic_eq dc135_8.2.2.2 rfl (fun c2 => ?_) (fun c2 => ?_)
    · refine am_s_aload_n rfl dc135_9.1.2.1 ?_
      refine am_s_getR (r := 146) dc135_9.1.2.2 rfl rfl rfl (hp _ _ _ rfl) ?_
      refine am_s_aload rfl dc135_9.2.1.1 ?_
      refine am_s_getR (r := x7 + 6) dc135_9.2.1.2 rfl hx7 rfl (am_r4_7 hp hx7) ?_
      refine am_s_iload rfl dc135_9.2.2.1 ?_
      refine am_x_iaload (x := I (x7 + 6) (Int32.toNatClampNeg x8)) dc135_9.2.2.2 (am_h4_7 hx7) ((vi_t (vi_f q c1).2 c2).1) rfl rfl ?_
      refine am_s_bipush am_cb25 dc135_10.1.1.1 ?_
      refine am_s_imul dc135_10.1.1.2 ?_
      refine am_s_iload_n rfl dc135_10.1.2.1 ?_
      refine am_s_iadd dc135_10.1.2.2 ?_
      refine am_s_bipush am_cb25 dc135_10.2.1.1 ?_
      refine am_s_imul dc135_10.2.1.2 ?_
      refine am_s_iload rfl dc135_10.2.2.1 ?_
      refine am_s_iadd dc135_10.2.2.2 ?_
      refine am_x_iaload (x := I 146 (Int32.toNatClampNeg (((((I (x7 + 6) (Int32.toNatClampNeg x8)) * 25) + x3) * 25) + x4))) dc135_11.1.1 rfl ((vi_t (vi_f q c1).2 c2).2.1) rfl rfl ?_
      refine am_s_iload rfl dc135_11.1.2.1 ?_
      refine am_s_ic_ge dc135_11.1.2.2 rfl (fun c3 => ?_) (fun c3 => ?_)
      · refine am_s_iconst am_cc0 dc135_11.2.2.1 ?_
        exact am_s_zreturn dc135_11.2.2.2 rfl (by decide) ((vi_t (vi_t (vi_f q c1).2 c2).2.2 c3))
      · refine am_s_iconst am_cc1 dc135_11.2.1.1 ?_
        refine am_s_goto rfl dc135_11.2.1.2 ?_
        exact am_s_zreturn dc135_11.2.2.2 rfl (by decide) ((vi_f (vi_t (vi_f q c1).2 c2).2.2 c3))
    · refine am_s_iconst am_cc1 dc135_9.1.1.1 ?_
      exact am_s_zreturn dc135_9.1.1.2 rfl (by decide) ((vi_f (vi_f q c1).2 c2))
  · refine am_s_iconst am_cc0 dc135_8.1.1.1 ?_
    exact am_s_zreturn dc135_8.1.1.2 rfl (by decide) ((vi_t q (Decidable.not_not.mp c1)))
-- turnRound (II)V
theorem v136_0 {sc : Option (Nat × (Nat → Int32))} {d k n : Nat} {P : am_O → Prop} {I : am_I} {J : am_J} {Pf : am_R} (hp : am_PF Pf) {x1 : Int32} {x2 : Int32} {l3 : Option Value} {l4 : Option Value} {l5 : Option Value} {l6 : Option Value} (q : (am_go sc d 136 (5, [some (.ref 145), some (.int x1), some (.int x2), some (.int x1), some (.int x2), l5, l6], [], (am_SH, I, J, Pf), k, n) P)) : am_go sc d 136 (0, [some (.ref 145), some (.int x1), some (.int x2), l3, l4, l5, l6], [], (am_SH, I, J, Pf), k, n) P := by
  refine am_s_iload_n rfl dc136_0.1.1.1 ?_
  refine am_s_istore_n (ls' := [some (.ref 145), some (.int x1), some (.int x2), some (.int x1), l4, l5, l6]) rfl rfl dc136_0.1.1.2 ?_
  refine am_s_iload_n rfl dc136_0.1.2.1 ?_
  refine am_s_istore (ls' := [some (.ref 145), some (.int x1), some (.int x2), some (.int x1), some (.int x2), l5, l6]) rfl rfl dc136_0.1.2.2 ?_
  exact q
theorem v136_5 {sc : Option (Nat × (Nat → Int32))} {d k n : Nat} {P : am_O → Prop} {I : am_I} {J : am_J} {Pf : am_R} (hp : am_PF Pf) {l1 : Option Value} {l2 : Option Value} {x3 : Int32} {x4 : Int32} {l5 : Option Value} {l6 : Option Value} (q : (if x4 ≤ x3 then (P (.inl none, (am_SH, I, J, Pf), k, n)) else (am_go sc d 136 (14, [some (.ref 145), l1, l2, some (.int x3), some (.int x4), some (.int 0), l6], [], (am_SH, I, J, Pf), k, n) P))) : am_go sc d 136 (5, [some (.ref 145), l1, l2, some (.int x3), some (.int x4), l5, l6], [], (am_SH, I, J, Pf), k, n) P := by
  refine am_s_iload_n rfl dc136_0.2.1.1 ?_
  refine am_s_iload rfl dc136_0.2.1.2 ?_
  refine am_s_ic_ge dc136_0.2.2.1 rfl (fun c1 => ?_) (fun c1 => ?_)
  · exact am_s_return dc136_6.2.2 rfl ((vi_t q c1))
  · refine am_s_iconst am_cc0 dc136_0.2.2.2 ?_
    refine am_s_istore (ls' := [some (.ref 145), l1, l2, some (.int x3), some (.int x4), some (.int 0), l6]) rfl rfl dc136_1.1.1.1 ?_
    exact (vi_f q c1)
theorem v136_14 {sc : Option (Nat × (Nat → Int32))} {d k n : Nat} {P : am_O → Prop} {I : am_I} {J : am_J} {Pf : am_R} (hp : am_PF Pf) {l1 : Option Value} {l2 : Option Value} {x3 : Int32} {x4 : Int32} {x5 : Int32} {l6 : Option Value} (hl2 : am_k1 l2 = true) (q : (if 4 ≤ x5 then (am_go sc d 136 (5, [some (.ref 145), l1, l2, some (.int (x3 + 1)), some (.int (x4 + (-1))), some (.int x5), l6], [], (am_SH, I, J, Pf), k, n) P) else (am_in ((x3 * 4) + x5) 2404 = true) ∧ (am_in ((x4 * 4) + x5) 2404 = true) ∧ (am_in ((x3 * 4) + x5) 2404 = true) ∧ (am_in ((x4 * 4) + x5) 2404 = true) ∧ (am_go sc d 136 (14, [some (.ref 145), l1, l2, some (.int x3), some (.int x4), some (.int (x5 + 1)), some (.int (I 150 (Int32.toNatClampNeg ((x3 * 4) + x5))))], [], (am_SH, am_u (am_u I 150 (Int32.toNatClampNeg ((x3 * 4) + x5)) (I 150 (Int32.toNatClampNeg ((x4 * 4) + x5)))) 150 (Int32.toNatClampNeg ((x4 * 4) + x5)) (I 150 (Int32.toNatClampNeg ((x3 * 4) + x5))), J, Pf), k, n) P))) : am_go sc d 136 (14, [some (.ref 145), l1, l2, some (.int x3), some (.int x4), some (.int x5), l6], [], (am_SH, I, J, Pf), k, n) P := by
  refine am_s_iload rfl dc136_1.1.1.2 ?_
  refine am_s_iconst am_cc4 dc136_1.1.2.1 ?_
  refine am_s_ic_ge dc136_1.1.2.2 rfl (fun c1 => ?_) (fun c1 => ?_)
  · refine am_s_iinc (ls' := [some (.ref 145), l1, l2, some (.int (x3 + 1)), some (.int x4), some (.int x5), l6]) am_cc1 rfl (am_set1_k (am_kill_x (j := 2) rfl hl2) rfl) dc136_6.1.1 ?_
    refine am_s_iinc (ls' := [some (.ref 145), l1, l2, some (.int (x3 + 1)), some (.int (x4 + (-1))), some (.int x5), l6]) am_ccm1 rfl rfl dc136_6.1.2 ?_
    refine am_s_goto rfl dc136_6.2.1 ?_
    exact (vi_t q c1)
  · refine am_s_aload_n rfl dc136_1.2.1.1 ?_
    refine am_s_getR (r := 150) dc136_1.2.1.2 rfl rfl rfl (hp _ _ _ rfl) ?_
    refine am_s_iload_n rfl dc136_1.2.2.1 ?_
    refine am_s_iconst am_cc4 dc136_1.2.2.2 ?_
    refine am_s_imul dc136_2.1.1.1 ?_
    refine am_s_iload rfl dc136_2.1.1.2 ?_
    refine am_s_iadd dc136_2.1.2.1 ?_
    refine am_x_iaload (x := I 150 (Int32.toNatClampNeg ((x3 * 4) + x5))) dc136_2.1.2.2 rfl ((vi_f q c1).1) rfl rfl ?_
    refine am_s_istore (ls' := [some (.ref 145), l1, l2, some (.int x3), some (.int x4), some (.int x5), some (.int (I 150 (Int32.toNatClampNeg ((x3 * 4) + x5))))]) rfl rfl dc136_2.2.1.1 ?_
    refine am_s_aload_n rfl dc136_2.2.1.2 ?_
    refine am_s_getR (r := 150) dc136_2.2.2.1 rfl rfl rfl (hp _ _ _ rfl) ?_
    refine am_s_iload_n rfl dc136_2.2.2.2 ?_
    refine am_s_iconst am_cc4 dc136_3.1.1.1 ?_
    refine am_s_imul dc136_3.1.1.2 ?_
    refine am_s_iload rfl dc136_3.1.2.1 ?_
    refine am_s_iadd dc136_3.1.2.2 ?_
    refine am_s_aload_n rfl dc136_3.2.1.1 ?_
    refine am_s_getR (r := 150) dc136_3.2.1.2 rfl rfl rfl (hp _ _ _ rfl) ?_
    refine am_s_iload rfl dc136_3.2.2.1 ?_
    refine am_s_iconst am_cc4 dc136_3.2.2.2 ?_
    refine am_s_imul dc136_4.1.1.1 ?_
    refine am_s_iload rfl dc136_4.1.1.2 ?_
    refine am_s_iadd dc136_4.1.2.1 ?_
    refine am_x_iaload (x := I 150 (Int32.toNatClampNeg ((x4 * 4) + x5))) dc136_4.1.2.2 rfl ((vi_f q c1).2.1) rfl rfl ?_
    refine am_s_iastore dc136_4.2.1.1 rfl ((vi_f q c1).2.2.1) rfl ?_
    refine am_s_aload_n rfl dc136_4.2.1.2 ?_
    refine am_s_getR (r := 150) dc136_4.2.2.1 rfl rfl rfl (hp _ _ _ rfl) ?_
    refine am_s_iload rfl dc136_4.2.2.2 ?_
    refine am_s_iconst am_cc4 dc136_5.1.1.1 ?_
    refine am_s_imul dc136_5.1.1.2 ?_
    refine am_s_iload rfl dc136_5.1.2.1 ?_
    refine am_s_iadd dc136_5.1.2.2 ?_
    refine am_s_iload rfl dc136_5.2.1.1 ?_
    refine am_s_iastore dc136_5.2.1.2 rfl ((vi_f q c1).2.2.2.1) rfl ?_
    refine am_s_iinc (ls' := [some (.ref 145), l1, l2, some (.int x3), some (.int x4), some (.int (x5 + 1)), some (.int (I 150 (Int32.toNatClampNeg ((x3 * 4) + x5))))]) am_cc1 rfl rfl dc136_5.2.2.1 ?_
    refine am_s_goto rfl dc136_5.2.2.2 ?_
    exact (vi_f q c1).2.2.2.2
-- fact (II)I
theorem v137_0 {sc : Option (Nat × (Nat → Int32))} {d k n : Nat} {P : am_O → Prop} {I : am_I} {J : am_J} {Pf : am_R} (hp : am_PF Pf) {x1 : Int32} {x2 : Int32} {l3 : Option Value} (q : (if x1 < 0 then (P (.inl (some (.int (-1))), (am_SH, I, J, Pf), k, n)) else (if (I 145 9) ≤ x1 then (P (.inl (some (.int (-1))), (am_SH, I, J, Pf), k, n)) else (if x2 < 0 then (P (.inl (some (.int (-1))), (am_SH, I, J, Pf), k, n)) else (if x2 < 6 then (if x2 = 4 then (am_in ((x1 * 6) + 4) 1200 = true) ∧ (if (I 149 (Int32.toNatClampNeg ((x1 * 6) + 4))) = (-1) then (am_in (x1 * 6) 1200 = true) ∧ (am_in ((x1 * 6) + 1) 1200 = true) ∧ (am_in ((x1 * 6) + 2) 1200 = true) ∧ (am_mth d 124 [.ref 145, .int (I 149 (Int32.toNatClampNeg (x1 * 6))), .int (I 149 (Int32.toNatClampNeg ((x1 * 6) + 1))), .int (I 149 (Int32.toNatClampNeg ((x1 * 6) + 2)))] (am_SH, I, J, Pf) (am_af sc d 137 76 [some (.ref 145), some (.int x1), some (.int x2), some (.int (x1 * 6))] [.int (I 149 (Int32.toNatClampNeg ((x1 * 6) + 2))), .int (I 149 (Int32.toNatClampNeg ((x1 * 6) + 1))), .int (I 149 (Int32.toNatClampNeg (x1 * 6))), .ref 145, .int ((x1 * 6) + 4), .ref 149] [.int ((x1 * 6) + 4), .ref 149] (am_SH, I, J, Pf) k n true P)) else (am_go sc d 137 (80, [some (.ref 145), some (.int x1), some (.int x2), some (.int (x1 * 6))], [], (am_SH, I, J, Pf), k, n) P)) else (am_go sc d 137 (80, [some (.ref 145), some (.int x1), some (.int x2), some (.int (x1 * 6))], [], (am_SH, I, J, Pf), k, n) P)) else (P (.inl (some (.int (-1))), (am_SH, I, J, Pf), k, n))))))) : am_go sc d 137 (0, [some (.ref 145), some (.int x1), some (.int x2), l3], [], (am_SH, I, J, Pf), k, n) P := by
  refine am_s_iload_n rfl dc137_0.1.1.1 ?_
  refine am_s_if_lt dc137_0.1.1.2 rfl (fun c1 => ?_) (fun c1 => ?_)
  · refine am_s_iconst am_ccm1 dc137_1.1.2.2 ?_
    exact am_s_ireturn dc137_1.2.1.1 rfl ((vi_t q c1))
  · refine am_s_iload_n rfl dc137_0.1.2.1 ?_
    refine am_s_aload_n rfl dc137_0.1.2.2 ?_
    refine am_x_getI (x := I 145 9) dc137_0.2.1.1 rfl rfl (Or.inl rfl) rfl ?_
    refine am_s_ic_ge dc137_0.2.1.2 rfl (fun c2 => ?_) (fun c2 => ?_)
    · refine am_s_iconst am_ccm1 dc137_1.1.2.2 ?_
      exact am_s_ireturn dc137_1.2.1.1 rfl ((vi_t (vi_f q c1) c2))
    · refine am_s_iload_n rfl dc137_0.2.2.1 ?_
      refine am_s_if_lt dc137_0.2.2.2 rfl (fun c3 => ?_) (fun c3 => ?_)
      · refine am_s_iconst am_ccm1 dc137_1.1.2.2 ?_
        exact am_s_ireturn dc137_1.2.1.1 rfl ((vi_t (vi_f (vi_f q c1) c2) c3))
      · refine am_s_iload_n rfl dc137_1.1.1.1 ?_
        refine am_s_bipush am_cb6 dc137_1.1.1.2 ?_
        refine am_s_ic_lt dc137_1.1.2.1 rfl (fun c4 => ?_) (fun c4 => ?_)
        · refine am_s_iload_n rfl dc137_1.2.1.2 ?_
          refine am_s_bipush am_cb6 dc137_1.2.2.1 ?_
          refine am_s_imul dc137_1.2.2.2 ?_
          refine am_s_istore_n (ls' := [some (.ref 145), some (.int x1), some (.int x2), some (.int (x1 * 6))]) rfl rfl dc137_2.1.1.1 ?_
          refine am_s_iload_n rfl dc137_2.1.1.2 ?_
          refine am_s_iconst am_cc4 dc137_2.1.2.1 ?_
          refine am_s_ic_ne dc137_2.1.2.2 rfl (fun c5 => ?_) (fun c5 => ?_)
          · exact (vi_f (vi_t (vi_f (vi_f (vi_f q c1) c2) c3) c4) c5)
          · refine am_s_aload_n rfl dc137_2.2.1.1 ?_
            refine am_s_getR (r := 149) dc137_2.2.1.2 rfl rfl rfl (hp _ _ _ rfl) ?_
            refine am_s_iload_n rfl dc137_2.2.2.1 ?_
            refine am_s_iconst am_cc4 dc137_2.2.2.2 ?_
            refine am_s_iadd dc137_3.1.1.1 ?_
            refine am_x_iaload (x := I 149 (Int32.toNatClampNeg ((x1 * 6) + 4))) dc137_3.1.1.2 rfl ((vi_t (vi_t (vi_f (vi_f (vi_f q c1) c2) c3) c4) (Decidable.not_not.mp c5)).1) rfl rfl ?_
            refine am_s_iconst am_ccm1 dc137_3.1.2.1 ?_
            refine am_s_ic_ne dc137_3.1.2.2 rfl (fun c6 => ?_) (fun c6 => ?_)
            · exact (vi_f (vi_t (vi_t (vi_f (vi_f (vi_f q c1) c2) c3) c4) (Decidable.not_not.mp c5)).2 c6)
            · refine am_s_aload_n rfl dc137_3.2.1.1 ?_
              refine am_s_getR (r := 149) dc137_3.2.1.2 rfl rfl rfl (hp _ _ _ rfl) ?_
              refine am_s_iload_n rfl dc137_3.2.2.1 ?_
              refine am_s_iconst am_cc4 dc137_3.2.2.2 ?_
              refine am_s_iadd dc137_4.1.1.1 ?_
              refine am_s_aload_n rfl dc137_4.1.1.2 ?_
              refine am_s_aload_n rfl dc137_4.1.2.1 ?_
              refine am_s_getR (r := 149) dc137_4.1.2.2 rfl rfl rfl (hp _ _ _ rfl) ?_
              refine am_s_iload_n rfl dc137_4.2.1.1 ?_
              refine am_x_iaload (x := I 149 (Int32.toNatClampNeg (x1 * 6))) dc137_4.2.1.2 rfl ((vi_t (vi_t (vi_t (vi_f (vi_f (vi_f q c1) c2) c3) c4) (Decidable.not_not.mp c5)).2 (Decidable.not_not.mp c6)).1) rfl rfl ?_
              refine am_s_aload_n rfl dc137_4.2.2.1 ?_
              refine am_s_getR (r := 149) dc137_4.2.2.2 rfl rfl rfl (hp _ _ _ rfl) ?_
              refine am_s_iload_n rfl dc137_5.1.1.1 ?_
              refine am_s_iconst am_cc1 dc137_5.1.1.2 ?_
              refine am_s_iadd dc137_5.1.2.1 ?_
              refine am_x_iaload (x := I 149 (Int32.toNatClampNeg ((x1 * 6) + 1))) dc137_5.1.2.2 rfl ((vi_t (vi_t (vi_t (vi_f (vi_f (vi_f q c1) c2) c3) c4) (Decidable.not_not.mp c5)).2 (Decidable.not_not.mp c6)).2.1) rfl rfl ?_
              refine am_s_aload_n rfl dc137_5.2.1.1 ?_
              refine am_s_getR (r := 149) dc137_5.2.1.2 rfl rfl rfl (hp _ _ _ rfl) ?_
              refine am_s_iload_n rfl dc137_5.2.2.1 ?_
              refine am_s_iconst am_cc2 dc137_5.2.2.2 ?_
              refine am_s_iadd dc137_6.1.1.1 ?_
              refine am_x_iaload (x := I 149 (Int32.toNatClampNeg ((x1 * 6) + 2))) dc137_6.1.1.2 rfl ((vi_t (vi_t (vi_t (vi_f (vi_f (vi_f q c1) c2) c3) c4) (Decidable.not_not.mp c5)).2 (Decidable.not_not.mp c6)).2.2.1) rfl rfl ?_
              exact am_s_virtual true dc137_6.1.2.1 rfl (by decide) rfl rfl rfl ((vi_t (vi_t (vi_t (vi_f (vi_f (vi_f q c1) c2) c3) c4) (Decidable.not_not.mp c5)).2 (Decidable.not_not.mp c6)).2.2.2)
        · refine am_s_iconst am_ccm1 dc137_1.1.2.2 ?_
          exact am_s_ireturn dc137_1.2.1.1 rfl ((vi_f (vi_f (vi_f (vi_f q c1) c2) c3) c4))
theorem v137_80 {sc : Option (Nat × (Nat → Int32))} {d k n : Nat} {P : am_O → Prop} {I : am_I} {J : am_J} {Pf : am_R} (hp : am_PF Pf) {l1 : Option Value} {x2 : Int32} {x3 : Int32} (q : (am_in (x3 + x2) 1200 = true) ∧ (P (.inl (some (.int (I 149 (Int32.toNatClampNeg (x3 + x2))))), (am_SH, I, J, Pf), k, n))) : am_go sc d 137 (80, [some (.ref 145), l1, some (.int x2), some (.int x3)], [], (am_SH, I, J, Pf), k, n) P := by
  refine am_s_aload_n rfl dc137_6.2.1.1 ?_
  refine am_s_getR (r := 149) dc137_6.2.1.2 rfl rfl rfl (hp _ _ _ rfl) ?_
  refine am_s_iload_n rfl dc137_6.2.2.1 ?_
  refine am_s_iload_n rfl dc137_6.2.2.2 ?_
  refine am_s_iadd dc137_7.1 ?_
  refine am_x_iaload (x := I 149 (Int32.toNatClampNeg (x3 + x2))) dc137_7.2.1 rfl (q.1) rfl rfl ?_
  exact am_s_ireturn dc137_7.2.2 rfl (q.2)
theorem v137_79 {sc : Option (Nat × (Nat → Int32))} {d k n : Nat} {P : am_O → Prop} {I : am_I} {J : am_J} {Pf : am_R} (hp : am_PF Pf) {l1 : Option Value} {x2 : Int32} {x3 : Int32} {s1 : Int32} {s2 : Int32} (q : (am_in s1 1200 = true) ∧ (am_go sc d 137 (80, [some (.ref 145), l1, some (.int x2), some (.int x3)], [], (am_SH, am_u I 149 (Int32.toNatClampNeg s1) s2, J, Pf), k, n) P)) : am_go sc d 137 (79, [some (.ref 145), l1, some (.int x2), some (.int x3)], [.int s2, .int s1, .ref 149], (am_SH, I, J, Pf), k, n) P := by
  refine am_s_iastore dc137_6.1.2.2 rfl (q.1) rfl ?_
  exact q.2
-- sumOf (LPrunedParses$Law;I)I
theorem v138_0 {sc : Option (Nat × (Nat → Int32))} {d k n : Nat} {P : am_O → Prop} {I : am_I} {J : am_J} {Pf : am_R} (hp : am_PF Pf) {x1 : Nat} (hx1 : am_SH[x1]? = some (.inl 2)) {x2 : Int32} {l3 : Option Value} {l4 : Option Value} (q : (am_go sc d 138 (5, [some (.ref 145), some (.ref x1), some (.int x2), some (.int 0), some (.int 0)], [], (am_SH, I, J, Pf), k, n) P)) : am_go sc d 138 (0, [some (.ref 145), some (.ref x1), some (.int x2), l3, l4], [], (am_SH, I, J, Pf), k, n) P := by
  refine am_s_iconst am_cc0 dc138_0.1.1.1 ?_
  refine am_s_istore_n (ls' := [some (.ref 145), some (.ref x1), some (.int x2), some (.int 0), l4]) rfl rfl dc138_0.1.1.2 ?_
  refine am_s_iconst am_cc0 dc138_0.1.2.1 ?_
  refine am_s_istore (ls' := [some (.ref 145), some (.ref x1), some (.int x2), some (.int 0), some (.int 0)]) rfl rfl dc138_0.1.2.2 ?_
  exact q
theorem v138_5 {sc : Option (Nat × (Nat → Int32))} {d k n : Nat} {P : am_O → Prop} {I : am_I} {J : am_J} {Pf : am_R} (hp : am_PF Pf) {x1 : Nat} (hx1 : am_SH[x1]? = some (.inl 2)) {x2 : Int32} {x3 : Int32} {x4 : Int32} (q : (if x2 ≤ x4 then (P (.inl (some (.int x3)), (am_SH, I, J, Pf), k, n)) else (am_mth d 48 [.ref x1, .ref 145, .int x4] (am_SH, I, J, Pf) (am_af sc d 138 16 [some (.ref 145), some (.ref x1), some (.int x2), some (.int x3), some (.int x4)] [.int x4, .ref 145, .ref x1, .int x3] [.int x3] (am_SH, I, J, Pf) k n false P)))) : am_go sc d 138 (5, [some (.ref 145), some (.ref x1), some (.int x2), some (.int x3), some (.int x4)], [], (am_SH, I, J, Pf), k, n) P := by
  refine am_s_iload rfl dc138_0.2.1.1 ?_
  refine am_s_iload_n rfl dc138_0.2.1.2 ?_
  refine am_s_ic_ge dc138_0.2.2.1 rfl (fun c1 => ?_) (fun c1 => ?_)
  · refine am_s_iload_n rfl dc138_2.1 ?_
    exact am_s_ireturn dc138_2.2 rfl ((vi_t q c1))
  · refine am_s_iload_n rfl dc138_0.2.2.2 ?_
    refine am_s_aload_n rfl dc138_1.1.1.1 ?_
    refine am_s_aload_n rfl dc138_1.1.1.2 ?_
    refine am_s_iload rfl dc138_1.1.2.1 ?_
    exact am_s_virtual false dc138_1.1.2.2 rfl (by decide) rfl hx1 rfl ((vi_f q c1))
theorem v138_19 {sc : Option (Nat × (Nat → Int32))} {d k n : Nat} {P : am_O → Prop} {I : am_I} {J : am_J} {Pf : am_R} (hp : am_PF Pf) {x1 : Nat} (hx1 : am_SH[x1]? = some (.inl 2)) {x2 : Int32} {l3 : Option Value} {x4 : Int32} {s0 : Int32} {s1 : Int32} (q : (am_go sc d 138 (5, [some (.ref 145), some (.ref x1), some (.int x2), some (.int (s0 + s1)), some (.int (x4 + 1))], [], (am_SH, I, J, Pf), k, n) P)) : am_go sc d 138 (19, [some (.ref 145), some (.ref x1), some (.int x2), l3, some (.int x4)], [.int s1, .int s0], (am_SH, I, J, Pf), k, n) P := by
  refine am_s_iadd dc138_1.2.1.1 ?_
  refine am_s_istore_n (ls' := [some (.ref 145), some (.ref x1), some (.int x2), some (.int (s0 + s1)), some (.int x4)]) rfl rfl dc138_1.2.1.2 ?_
  refine am_s_iinc (ls' := [some (.ref 145), some (.ref x1), some (.int x2), some (.int (s0 + s1)), some (.int (x4 + 1))]) am_cc1 rfl rfl dc138_1.2.2.1 ?_
  refine am_s_goto rfl dc138_1.2.2.2 ?_
  exact q
-- feed (IIIII)I
theorem v140_0 {sc : Option (Nat × (Nat → Int32))} {d k n : Nat} {P : am_O → Prop} {I : am_I} {J : am_J} {Pf : am_R} (hp : am_PF Pf) {x1 : Int32} {x2 : Int32} {x3 : Int32} {x4 : Int32} {x5 : Int32} (q : (if ((I 1 1) + 20) ≤ 600 then (am_mth d 51 [.ref 1, .int x1] (am_SH, I, J, Pf) (am_af sc d 140 23 [some (.ref 0), some (.int x1), some (.int x2), some (.int x3), some (.int x4), some (.int x5)] [.int x1, .ref 1] [] (am_SH, I, J, Pf) k n false P)) else (P (.inl (some (.int (-1))), (am_SH, I, J, Pf), k, n)))) : am_go sc d 140 (0, [some (.ref 0), some (.int x1), some (.int x2), some (.int x3), some (.int x4), some (.int x5)], [], (am_SH, I, J, Pf), k, n) P := by
  refine am_s_aload_n rfl dc140_0.1.1.1 ?_
  refine am_s_getR (r := 1) dc140_0.1.1.2 rfl rfl rfl (hp _ _ _ rfl) ?_
  refine am_x_getI (x := I 1 1) dc140_0.1.2.1 rfl rfl (Or.inl rfl) rfl ?_
  refine am_s_bipush am_cb20 dc140_0.1.2.2 ?_
  refine am_s_iadd dc140_0.2.1.1 ?_
  refine am_s_sipush am_cs600 dc140_0.2.1.2 ?_
  refine am_s_ic_le dc140_0.2.2.1 rfl (fun c1 => ?_) (fun c1 => ?_)
  · refine am_s_aload_n rfl dc140_1.1.1.2 ?_
    refine am_s_getR (r := 1) dc140_1.1.2.1 rfl rfl rfl (hp _ _ _ rfl) ?_
    refine am_s_iload_n rfl dc140_1.1.2.2 ?_
    exact am_s_virtual false dc140_1.2.1.1 rfl (by decide) rfl rfl rfl ((vi_t q c1))
  · refine am_s_iconst am_ccm1 dc140_0.2.2.2 ?_
    exact am_s_ireturn dc140_1.1.1.1 rfl ((vi_f q c1))
theorem v140_26 {sc : Option (Nat × (Nat → Int32))} {d k n : Nat} {P : am_O → Prop} {I : am_I} {J : am_J} {Pf : am_R} (hp : am_PF Pf) {l1 : Option Value} {x2 : Int32} {x3 : Int32} {x4 : Int32} {x5 : Int32} (q : (am_mth d 51 [.ref 1, .int x2] (am_SH, I, J, Pf) (am_af sc d 140 31 [some (.ref 0), l1, some (.int x2), some (.int x3), some (.int x4), some (.int x5)] [.int x2, .ref 1] [] (am_SH, I, J, Pf) k n false P))) : am_go sc d 140 (26, [some (.ref 0), l1, some (.int x2), some (.int x3), some (.int x4), some (.int x5)], [], (am_SH, I, J, Pf), k, n) P := by
  refine am_s_aload_n rfl dc140_1.2.1.2 ?_
  refine am_s_getR (r := 1) dc140_1.2.2.1 rfl rfl rfl (hp _ _ _ rfl) ?_
  refine am_s_iload_n rfl dc140_1.2.2.2 ?_
  exact am_s_virtual false dc140_2.1.1.1 rfl (by decide) rfl rfl rfl (q)
theorem v140_34 {sc : Option (Nat × (Nat → Int32))} {d k n : Nat} {P : am_O → Prop} {I : am_I} {J : am_J} {Pf : am_R} (hp : am_PF Pf) {l1 : Option Value} {l2 : Option Value} {x3 : Int32} {x4 : Int32} {x5 : Int32} (q : (am_mth d 51 [.ref 1, .int x3] (am_SH, I, J, Pf) (am_af sc d 140 39 [some (.ref 0), l1, l2, some (.int x3), some (.int x4), some (.int x5)] [.int x3, .ref 1] [] (am_SH, I, J, Pf) k n false P))) : am_go sc d 140 (34, [some (.ref 0), l1, l2, some (.int x3), some (.int x4), some (.int x5)], [], (am_SH, I, J, Pf), k, n) P := by
  refine am_s_aload_n rfl dc140_2.1.1.2 ?_
  refine am_s_getR (r := 1) dc140_2.1.2.1 rfl rfl rfl (hp _ _ _ rfl) ?_
  refine am_s_iload_n rfl dc140_2.1.2.2 ?_
  exact am_s_virtual false dc140_2.2.1.1 rfl (by decide) rfl rfl rfl (q)
theorem v140_42 {sc : Option (Nat × (Nat → Int32))} {d k n : Nat} {P : am_O → Prop} {I : am_I} {J : am_J} {Pf : am_R} (hp : am_PF Pf) {l1 : Option Value} {l2 : Option Value} {l3 : Option Value} {x4 : Int32} {x5 : Int32} (q : (am_mth d 51 [.ref 1, .int x4] (am_SH, I, J, Pf) (am_af sc d 140 48 [some (.ref 0), l1, l2, l3, some (.int x4), some (.int x5)] [.int x4, .ref 1] [] (am_SH, I, J, Pf) k n false P))) : am_go sc d 140 (42, [some (.ref 0), l1, l2, l3, some (.int x4), some (.int x5)], [], (am_SH, I, J, Pf), k, n) P := by
  refine am_s_aload_n rfl dc140_2.2.1.2 ?_
  refine am_s_getR (r := 1) dc140_2.2.2.1 rfl rfl rfl (hp _ _ _ rfl) ?_
  refine am_s_iload rfl dc140_2.2.2.2 ?_
  exact am_s_virtual false dc140_3.1.1.1 rfl (by decide) rfl rfl rfl (q)
theorem v140_51 {sc : Option (Nat × (Nat → Int32))} {d k n : Nat} {P : am_O → Prop} {I : am_I} {J : am_J} {Pf : am_R} (hp : am_PF Pf) {l1 : Option Value} {l2 : Option Value} {l3 : Option Value} {l4 : Option Value} {x5 : Int32} (q : (am_mth d 51 [.ref 1, .int x5] (am_SH, I, J, Pf) (am_af sc d 140 57 [some (.ref 0), l1, l2, l3, l4, some (.int x5)] [.int x5, .ref 1] [] (am_SH, I, J, Pf) k n false P))) : am_go sc d 140 (51, [some (.ref 0), l1, l2, l3, l4, some (.int x5)], [], (am_SH, I, J, Pf), k, n) P := by
  refine am_s_aload_n rfl dc140_3.1.1.2 ?_
  refine am_s_getR (r := 1) dc140_3.1.2.1 rfl rfl rfl (hp _ _ _ rfl) ?_
  refine am_s_iload rfl dc140_3.1.2.2 ?_
  exact am_s_virtual false dc140_3.2.1.1 rfl (by decide) rfl rfl rfl (q)
theorem v140_60 {sc : Option (Nat × (Nat → Int32))} {d k n : Nat} {P : am_O → Prop} {I : am_I} {J : am_J} {Pf : am_R} (hp : am_PF Pf) {l1 : Option Value} {l2 : Option Value} {l3 : Option Value} {l4 : Option Value} {l5 : Option Value} (q : (P (.inl (some (.int (I 1 1))), (am_SH, I, J, Pf), k, n))) : am_go sc d 140 (60, [some (.ref 0), l1, l2, l3, l4, l5], [], (am_SH, I, J, Pf), k, n) P := by
  refine am_s_aload_n rfl dc140_3.2.1.2 ?_
  refine am_s_getR (r := 1) dc140_3.2.2.1 rfl rfl rfl (hp _ _ _ rfl) ?_
  refine am_x_getI (x := I 1 1) dc140_3.2.2.2 rfl rfl (Or.inl rfl) rfl ?_
  exact am_s_ireturn dc140_4 rfl (q)
-- grammar (I)I
theorem v141_0 {sc : Option (Nat × (Nat → Int32))} {d k n : Nat} {P : am_O → Prop} {I : am_I} {J : am_J} {Pf : am_R} (hp : am_PF Pf) {x1 : Int32} {l2 : Option Value} {l3 : Option Value} (q : (am_mth d 176 [.ref 0, .int x1, .int 0, .int (I 1 1)] (am_SH, I, J, Pf) (am_af sc d 141 10 [some (.ref 0), some (.int x1), l2, l3] [.int (I 1 1), .int 0, .int x1, .ref 0] [] (am_SH, I, J, Pf) k n true P))) : am_go sc d 141 (0, [some (.ref 0), some (.int x1), l2, l3], [], (am_SH, I, J, Pf), k, n) P := by
  refine am_s_aload_n rfl dc141_0.1.1.1 ?_
  refine am_s_iload_n rfl dc141_0.1.1.2 ?_
  refine am_s_iconst am_cc0 dc141_0.1.2.1 ?_
  refine am_s_aload_n rfl dc141_0.1.2.2 ?_
  refine am_s_getR (r := 1) dc141_0.2.1.1 rfl rfl rfl (hp _ _ _ rfl) ?_
  refine am_x_getI (x := I 1 1) dc141_0.2.1.2 rfl rfl (Or.inl rfl) rfl ?_
  exact am_s_virtual true dc141_0.2.2.1 rfl (by decide) rfl rfl rfl (q)
theorem v141_13 {sc : Option (Nat × (Nat → Int32))} {d k n : Nat} {P : am_O → Prop} {I : am_I} {J : am_J} {Pf : am_R} (hp : am_PF Pf) {x1 : Int32} {l2 : Option Value} {l3 : Option Value} (q : (am_mth d 52 [.ref 1, .int x1] (am_SH, I, J, Pf) (am_af sc d 141 18 [some (.ref 0), some (.int x1), l2, l3] [.int x1, .ref 1] [] (am_SH, I, J, Pf) k n false P))) : am_go sc d 141 (13, [some (.ref 0), some (.int x1), l2, l3], [], (am_SH, I, J, Pf), k, n) P := by
  refine am_s_aload_n rfl dc141_0.2.2.2 ?_
  refine am_s_getR (r := 1) dc141_1.1.1.1 rfl rfl rfl (hp _ _ _ rfl) ?_
  refine am_s_iload_n rfl dc141_1.1.1.2 ?_
  exact am_s_virtual false dc141_1.1.2.1 rfl (by decide) rfl rfl rfl (q)
theorem v141_21 {sc : Option (Nat × (Nat → Int32))} {d k n : Nat} {P : am_O → Prop} {I : am_I} {J : am_J} {Pf : am_R} (hp : am_PF Pf) {l1 : Option Value} {l2 : Option Value} {l3 : Option Value} (q : ∃ r0_3x1 : Nat, (Pf 0 3 = some r0_3x1) ∧ (am_SH[r0_3x1]? = some (.inl 4)) ∧ (am_mth d 21 [.ref 3, .ref 1, .ref r0_3x1] (am_SH, I, J, Pf) (am_af sc d 141 33 [some (.ref 0), l1, l2, l3] [.ref r0_3x1, .ref 1, .ref 3] [] (am_SH, I, J, Pf) k n false P))) : am_go sc d 141 (21, [some (.ref 0), l1, l2, l3], [], (am_SH, I, J, Pf), k, n) P := by
  refine am_s_aload_n rfl dc141_1.1.2.2 ?_
  refine am_s_getR (r := 3) dc141_1.2.1.1 rfl rfl rfl (hp _ _ _ rfl) ?_
  refine am_s_aload_n rfl dc141_1.2.1.2 ?_
  refine am_s_getR (r := 1) dc141_1.2.2.1 rfl rfl rfl (hp _ _ _ rfl) ?_
  refine am_s_aload_n rfl dc141_1.2.2.2 ?_
  obtain ⟨r0_3x1, qx1⟩ := q
  refine am_s_getR (r := r0_3x1) dc141_2.1.1.1 rfl rfl rfl (qx1.1) ?_
  exact am_s_virtual false dc141_2.1.1.2 rfl (by decide) rfl rfl rfl (qx1.2.2)
theorem v141_36 {sc : Option (Nat × (Nat → Int32))} {d k n : Nat} {P : am_O → Prop} {I : am_I} {J : am_J} {Pf : am_R} (hp : am_PF Pf) {l1 : Option Value} {l2 : Option Value} {l3 : Option Value} {s0 : Int32} (hl1 : am_k1 l1 = true) (q : (if s0 = 0 then (P (.inl (some (.int ((I 1 5) - 10))), (am_SH, am_u I 0 15 (I 3 2), J, Pf), k, n)) else ∃ r0_2x1 : Nat, (Pf 0 2 = some r0_2x1) ∧ (am_SH[r0_2x1]? = some (.inl 4)) ∧ ∃ r0_3x2 : Nat, (Pf 0 3 = some r0_3x2) ∧ (am_SH[r0_3x2]? = some (.inl 4)) ∧ ((am_u (am_u Pf 0 2 (some r0_3x2)) 0 3 (some r0_2x1)) 0 10 = some 112) ∧ ∃ r0_2x3 : Nat, ((am_u (am_u Pf 0 2 (some r0_3x2)) 0 3 (some r0_2x1)) 0 2 = some r0_2x3) ∧ (am_SH[r0_2x3]? = some (.inl 4)) ∧ (am_mth d 1 [.ref 112, .ref r0_2x3] (am_SH, am_u I 0 15 (-1), J, am_u (am_u Pf 0 2 (some r0_3x2)) 0 3 (some r0_2x1)) (am_af sc d 141 97 [some (.ref 0), l1, some (.int s0), some (.ref r0_2x1)] [.ref r0_2x3, .ref 112] [] (am_SH, am_u I 0 15 (-1), J, am_u (am_u Pf 0 2 (some r0_3x2)) 0 3 (some r0_2x1)) k n false P)))) : am_go sc d 141 (36, [some (.ref 0), l1, l2, l3], [.int s0], (am_SH, I, J, Pf), k, n) P := by
  refine am_s_istore_n (ls' := [some (.ref 0), l1, some (.int s0), l3]) rfl (am_set1_k (am_kill_x (j := 1) rfl hl1) rfl) dc141_2.1.2.1 ?_
  refine am_s_aload_n rfl dc141_2.1.2.2 ?_
  refine am_s_iload_n rfl dc141_2.2.1.1 ?_
  refine am_s_if_eq dc141_2.2.1.2 rfl (fun c1 => ?_) (fun c1 => ?_)
  · refine am_s_aload_n rfl dc141_3.1.1.1 ?_
    refine am_s_getR (r := 3) dc141_3.1.1.2 rfl rfl rfl (hp _ _ _ rfl) ?_
    refine am_x_getI (x := I 3 2) dc141_3.1.2.1 rfl rfl (Or.inl rfl) rfl ?_
    refine am_s_putI dc141_3.1.2.2 rfl rfl rfl rfl ?_
    refine am_s_iload_n rfl dc141_3.2.1.1 ?_
    refine am_s_if_ne dc141_3.2.1.2 rfl (fun z => absurd c1 z) (fun _ => ?_)
    refine am_s_aload_n rfl dc141_3.2.2.1 ?_
    refine am_s_getR (r := 1) dc141_3.2.2.2 rfl rfl rfl (hp _ _ _ rfl) ?_
    refine am_x_getI (x := I 1 5) dc141_4.1.1.1 rfl rfl (Or.inl rfl) rfl ?_
    refine am_s_bipush am_cb10 dc141_4.1.1.2 ?_
    refine am_s_isub dc141_4.1.2.1 ?_
    exact am_s_ireturn dc141_4.1.2.2 rfl ((vi_t q c1))
  · refine am_s_iconst am_ccm1 dc141_2.2.2.1 ?_
    refine am_s_goto rfl dc141_2.2.2.2 ?_
    refine am_s_putI dc141_3.1.2.2 rfl rfl rfl rfl ?_
    refine am_s_iload_n rfl dc141_3.2.1.1 ?_
    refine am_s_if_ne dc141_3.2.1.2 rfl (fun _ => ?_) (fun z => absurd c1 z)
    refine am_s_aload_n rfl dc141_4.2.1.1 ?_
    obtain ⟨r0_2x1, qx1⟩ := (vi_f q c1)
    refine am_s_getR (r := r0_2x1) dc141_4.2.1.2 rfl rfl rfl (qx1.1) ?_
    refine am_s_astore_n (ls' := [some (.ref 0), l1, some (.int s0), some (.ref r0_2x1)]) rfl rfl dc141_4.2.2.1 ?_
    refine am_s_aload_n rfl dc141_4.2.2.2 ?_
    refine am_s_aload_n rfl dc141_5.1.1.1 ?_
    obtain ⟨r0_3x2, qx2⟩ := qx1.2.2
    refine am_s_getR (r := r0_3x2) dc141_5.1.1.2 rfl rfl rfl (qx2.1) ?_
    refine am_s_putR dc141_5.1.2.1 rfl rfl rfl rfl (am_blt (qx2.2.1)) ?_
    refine am_s_aload_n rfl dc141_5.1.2.2 ?_
    refine am_s_aload_n rfl dc141_5.2.1.1 ?_
    refine am_s_putR dc141_5.2.1.2 rfl rfl rfl rfl (am_blt (qx1.2.1)) ?_
    refine am_s_aload_n rfl dc141_5.2.2.1 ?_
    refine am_s_getR (r := 112) dc141_5.2.2.2 rfl rfl rfl (qx2.2.2.1) ?_
    refine am_s_aload_n rfl dc141_6.1.1.1 ?_
    obtain ⟨r0_2x3, qx3⟩ := qx2.2.2.2
    refine am_s_getR (r := r0_2x3) dc141_6.1.1.2 rfl rfl rfl (qx3.1) ?_
    exact am_s_virtual false dc141_6.1.2.1 rfl (by decide) rfl rfl rfl (qx3.2.2)
theorem v141_100 {sc : Option (Nat × (Nat → Int32))} {d k n : Nat} {P : am_O → Prop} {I : am_I} {J : am_J} {Pf : am_R} (hp : am_PF Pf) {l1 : Option Value} {l2 : Option Value} {l3 : Option Value} (q : ∃ r0_4x1 : Nat, (Pf 0 4 = some r0_4x1) ∧ (am_SH[r0_4x1]? = some (.inl 2)) ∧ (am_mth d 40 [.ref r0_4x1] (am_SH, I, J, Pf) (am_af sc d 141 104 [some (.ref 0), l1, l2, l3] [.ref r0_4x1] [] (am_SH, I, J, Pf) k n false P))) : am_go sc d 141 (100, [some (.ref 0), l1, l2, l3], [], (am_SH, I, J, Pf), k, n) P := by
  refine am_s_aload_n rfl dc141_6.1.2.2 ?_
  obtain ⟨r0_4x1, qx1⟩ := q
  refine am_s_getR (r := r0_4x1) dc141_6.2.1.1 rfl rfl rfl (qx1.1) ?_
  exact am_s_virtual false dc141_6.2.1.2 rfl (by decide) rfl (qx1.2.1) rfl (qx1.2.2)
theorem v141_107 {sc : Option (Nat × (Nat → Int32))} {d k n : Nat} {P : am_O → Prop} {I : am_I} {J : am_J} {Pf : am_R} (hp : am_PF Pf) {l1 : Option Value} {l2 : Option Value} {l3 : Option Value} (q : ∃ r0_2x1 : Nat, (Pf 0 2 = some r0_2x1) ∧ (am_SH[r0_2x1]? = some (.inl 4)) ∧ (P (.inl (some (.int ((am_u (am_u (am_u (am_u (am_u I 0 9 0) 108 2 0) 135 1 0) 0 16 0) 0 12 0) r0_2x1 2))), (am_SH, am_u (am_u (am_u (am_u (am_u I 0 9 0) 108 2 0) 135 1 0) 0 16 0) 0 12 0, J, Pf), k, n))) : am_go sc (d + 1) 141 (107, [some (.ref 0), l1, l2, l3], [], (am_SH, I, J, Pf), k, n) P := by
  refine am_s_aload_n rfl dc141_6.2.2.1 ?_
  refine am_s_iconst am_cc0 dc141_6.2.2.2 ?_
  refine am_s_putI dc141_7.1.1.1 rfl rfl rfl rfl ?_
  refine am_s_aload_n rfl dc141_7.1.1.2 ?_
  refine am_s_getR (r := 108) dc141_7.1.2.1 rfl rfl rfl (hp _ _ _ rfl) ?_
  refine am_s_iconst am_cc0 dc141_7.1.2.2 ?_
  refine am_s_putI dc141_7.2.1.1 rfl rfl rfl rfl ?_
  refine am_s_aload_n rfl dc141_7.2.1.2 ?_
  refine am_s_getR (r := 135) dc141_7.2.2.1 rfl rfl rfl (hp _ _ _ rfl) ?_
  refine am_s_iconst am_cc0 dc141_7.2.2.2 ?_
  refine am_s_putI dc141_8.1.1.1 rfl rfl rfl rfl ?_
  refine am_s_aload_n rfl dc141_8.1.1.2 ?_
  refine am_s_iconst am_cc0 dc141_8.1.2.1 ?_
  refine am_s_virtual true dc141_8.1.2.2 rfl (by decide) rfl rfl rfl (am_mth_of rfl rfl ?_)
  refine am_s_aload_n rfl dc179_0.1.1 ?_
  refine am_s_iload_n rfl dc179_0.1.2.1 ?_
  refine am_s_putI dc179_0.1.2.2 rfl rfl rfl rfl ?_
  refine am_s_aload_n rfl dc179_0.2.1.1 ?_
  refine am_s_iconst am_cc0 dc179_0.2.1.2 ?_
  refine am_s_putZ dc179_0.2.2.1 rfl rfl rfl rfl (by decide) ?_
  refine am_s_return dc179_0.2.2.2 rfl (am_bkV ?_)
  refine am_s_aload_n rfl dc141_8.2.1.1 ?_
  obtain ⟨r0_2x1, qx1⟩ := q
  refine am_s_getR (r := r0_2x1) dc141_8.2.1.2 rfl rfl rfl (qx1.1) ?_
  refine am_x_getI (x := (am_u (am_u (am_u (am_u (am_u I 0 9 0) 108 2 0) 135 1 0) 0 16 0) 0 12 0) r0_2x1 2) dc141_8.2.2.1 rfl (qx1.2.1) (Or.inl rfl) rfl ?_
  exact am_s_ireturn dc141_8.2.2.2 rfl (qx1.2.2)
-- law (I)I
theorem v142_0 {sc : Option (Nat × (Nat → Int32))} {d k n : Nat} {P : am_O → Prop} {I : am_I} {J : am_J} {Pf : am_R} (hp : am_PF Pf) {x1 : Int32} {l2 : Option Value} (q : (if 150 < (I 1 1) then (am_mth (d + 1) 176 [.ref 0, .int x1, .int 0, .int 150] (am_SH, I, J, Pf) (am_af sc (d + 1) 142 16 [some (.ref 0), some (.int x1), l2] [.int 150, .int 0, .int x1, .ref 0] [] (am_SH, I, J, Pf) k n true P)) else (am_mth (d + 1) 176 [.ref 0, .int x1, .int 0, .int (I 1 1)] (am_SH, I, J, Pf) (am_af sc (d + 1) 142 16 [some (.ref 0), some (.int x1), l2] [.int (I 1 1), .int 0, .int x1, .ref 0] [] (am_SH, I, J, Pf) k n true P)))) : am_go sc (d + 1) 142 (0, [some (.ref 0), some (.int x1), l2], [], (am_SH, I, J, Pf), k, n) P := by
  refine am_s_aload_n rfl dc142_0.1.1.1 ?_
  refine am_s_iload_n rfl dc142_0.1.1.2 ?_
  refine am_s_iconst am_cc0 dc142_0.1.2.1 ?_
  refine am_s_aload_n rfl dc142_0.1.2.2 ?_
  refine am_s_getR (r := 1) dc142_0.2.1.1 rfl rfl rfl (hp _ _ _ rfl) ?_
  refine am_x_getI (x := I 1 1) dc142_0.2.1.2 rfl rfl (Or.inl rfl) rfl ?_
  refine am_s_sipush am_cs150 dc142_0.2.2.1 ?_
  refine am_s_static dc142_0.2.2.2 rfl rfl rfl (am_mth_of rfl rfl ?_)
  refine am_s_iload_n rfl dc330_0.1.1 ?_
  refine am_s_iload_n rfl dc330_0.1.2.1 ?_
  refine am_s_ic_gt dc330_0.1.2.2 rfl (fun c1 => ?_) (fun c1 => ?_)
  · refine am_s_iload_n rfl dc330_0.2.2.1 ?_
    refine am_s_ireturn dc330_0.2.2.2 rfl (am_bkI ?_)
    exact am_s_virtual true dc142_1.1.1.1 rfl (by decide) rfl rfl rfl ((vi_t q c1))
  · refine am_s_iload_n rfl dc330_0.2.1.1 ?_
    refine am_s_goto rfl dc330_0.2.1.2 ?_
    refine am_s_ireturn dc330_0.2.2.2 rfl (am_bkI ?_)
    exact am_s_virtual true dc142_1.1.1.1 rfl (by decide) rfl rfl rfl ((vi_f q c1))
theorem v142_19 {sc : Option (Nat × (Nat → Int32))} {d k n : Nat} {P : am_O → Prop} {I : am_I} {J : am_J} {Pf : am_R} (hp : am_PF Pf) {x1 : Int32} {l2 : Option Value} (q : (am_mth d 52 [.ref 1, .int x1] (am_SH, I, J, Pf) (am_af sc d 142 24 [some (.ref 0), some (.int x1), l2] [.int x1, .ref 1] [] (am_SH, I, J, Pf) k n false P))) : am_go sc d 142 (19, [some (.ref 0), some (.int x1), l2], [], (am_SH, I, J, Pf), k, n) P := by
  refine am_s_aload_n rfl dc142_1.1.1.2 ?_
  refine am_s_getR (r := 1) dc142_1.1.2.1 rfl rfl rfl (hp _ _ _ rfl) ?_
  refine am_s_iload_n rfl dc142_1.1.2.2 ?_
  exact am_s_virtual false dc142_1.2.1.1 rfl (by decide) rfl rfl rfl (q)
theorem v142_27 {sc : Option (Nat × (Nat → Int32))} {d k n : Nat} {P : am_O → Prop} {I : am_I} {J : am_J} {Pf : am_R} (hp : am_PF Pf) {l1 : Option Value} {l2 : Option Value} (q : ∃ r0_5x1 : Nat, (Pf 0 5 = some r0_5x1) ∧ (am_SH[r0_5x1]? = some (.inl 2)) ∧ (am_mth d 42 [.ref r0_5x1, .ref 1] (am_SH, am_u I 0 15 (-1), J, Pf) (am_af sc d 142 40 [some (.ref 0), l1, l2] [.ref 1, .ref r0_5x1] [] (am_SH, am_u I 0 15 (-1), J, Pf) k n false P))) : am_go sc d 142 (27, [some (.ref 0), l1, l2], [], (am_SH, I, J, Pf), k, n) P := by
  refine am_s_aload_n rfl dc142_1.2.1.2 ?_
  refine am_s_iconst am_ccm1 dc142_1.2.2.1 ?_
  refine am_s_putI dc142_1.2.2.2 rfl rfl rfl rfl ?_
  refine am_s_aload_n rfl dc142_2.1.1.1 ?_
  obtain ⟨r0_5x1, qx1⟩ := q
  refine am_s_getR (r := r0_5x1) dc142_2.1.1.2 rfl rfl rfl (qx1.1) ?_
  refine am_s_aload_n rfl dc142_2.1.2.1 ?_
  refine am_s_getR (r := 1) dc142_2.1.2.2 rfl rfl rfl (hp _ _ _ rfl) ?_
  exact am_s_virtual false dc142_2.2.1.1 rfl (by decide) rfl (qx1.2.1) rfl (qx1.2.2)
theorem v142_43 {sc : Option (Nat × (Nat → Int32))} {d k n : Nat} {P : am_O → Prop} {I : am_I} {J : am_J} {Pf : am_R} (hp : am_PF Pf) {l1 : Option Value} {l2 : Option Value} {s0 : Int32} (hl1 : am_k1 l1 = true) (q : (if s0 = 0 then (P (.inl (some (.int ((I 1 5) - 10))), (am_SH, I, J, Pf), k, n)) else ∃ r0_4x1 : Nat, (Pf 0 4 = some r0_4x1) ∧ (am_SH[r0_4x1]? = some (.inl 2)) ∧ ∃ r0_5x2 : Nat, (Pf 0 5 = some r0_5x2) ∧ (am_SH[r0_5x2]? = some (.inl 2)) ∧ (P (.inl (some (.int 1)), (am_SH, I, J, am_u (am_u Pf 0 4 (some r0_5x2)) 0 5 (some r0_4x1)), k, n)))) : am_go sc d 142 (43, [some (.ref 0), l1, l2], [.int s0], (am_SH, I, J, Pf), k, n) P := by
  refine am_s_if_ne dc142_2.2.1.2 rfl (fun c1 => ?_) (fun c1 => ?_)
  · refine am_s_aload_n rfl dc142_3.2.1.1 ?_
    obtain ⟨r0_4x1, qx1⟩ := (vi_f q c1)
    refine am_s_getR (r := r0_4x1) dc142_3.2.1.2 rfl rfl rfl (qx1.1) ?_
    refine am_s_astore_n (ls' := [some (.ref 0), l1, some (.ref r0_4x1)]) rfl (am_set1_k (am_kill_x (j := 1) rfl hl1) rfl) dc142_3.2.2.1 ?_
    refine am_s_aload_n rfl dc142_3.2.2.2 ?_
    refine am_s_aload_n rfl dc142_4.1.1.1 ?_
    obtain ⟨r0_5x2, qx2⟩ := qx1.2.2
    refine am_s_getR (r := r0_5x2) dc142_4.1.1.2 rfl rfl rfl (qx2.1) ?_
    refine am_s_putR dc142_4.1.2.1 rfl rfl rfl rfl (am_blt (qx2.2.1)) ?_
    refine am_s_aload_n rfl dc142_4.1.2.2 ?_
    refine am_s_aload_n rfl dc142_4.2.1.1 ?_
    refine am_s_putR dc142_4.2.1.2 rfl rfl rfl rfl (am_blt (qx1.2.1)) ?_
    refine am_s_iconst am_cc1 dc142_4.2.2.1 ?_
    exact am_s_ireturn dc142_4.2.2.2 rfl (qx2.2.2)
  · refine am_s_aload_n rfl dc142_2.2.2.1 ?_
    refine am_s_getR (r := 1) dc142_2.2.2.2 rfl rfl rfl (hp _ _ _ rfl) ?_
    refine am_x_getI (x := I 1 5) dc142_3.1.1.1 rfl rfl (Or.inl rfl) rfl ?_
    refine am_s_bipush am_cb10 dc142_3.1.1.2 ?_
    refine am_s_isub dc142_3.1.2.1 ?_
    exact am_s_ireturn dc142_3.1.2.2 rfl ((vi_t q (Decidable.not_not.mp c1)))
-- work (I)I
theorem v143_0 {sc : Option (Nat × (Nat → Int32))} {d k n : Nat} {P : am_O → Prop} {I : am_I} {J : am_J} {Pf : am_R} (hp : am_PF Pf) {x1 : Int32} {l2 : Option Value} (q : (if 150 < (I 1 1) then (am_mth (d + 1) 176 [.ref 0, .int x1, .int 0, .int 150] (am_SH, I, J, Pf) (am_af sc (d + 1) 143 16 [some (.ref 0), some (.int x1), l2] [.int 150, .int 0, .int x1, .ref 0] [] (am_SH, I, J, Pf) k n true P)) else (am_mth (d + 1) 176 [.ref 0, .int x1, .int 0, .int (I 1 1)] (am_SH, I, J, Pf) (am_af sc (d + 1) 143 16 [some (.ref 0), some (.int x1), l2] [.int (I 1 1), .int 0, .int x1, .ref 0] [] (am_SH, I, J, Pf) k n true P)))) : am_go sc (d + 1) 143 (0, [some (.ref 0), some (.int x1), l2], [], (am_SH, I, J, Pf), k, n) P := by
  refine am_s_aload_n rfl dc143_0.1.1.1 ?_
  refine am_s_iload_n rfl dc143_0.1.1.2 ?_
  refine am_s_iconst am_cc0 dc143_0.1.2.1 ?_
  refine am_s_aload_n rfl dc143_0.1.2.2 ?_
  refine am_s_getR (r := 1) dc143_0.2.1.1 rfl rfl rfl (hp _ _ _ rfl) ?_
  refine am_x_getI (x := I 1 1) dc143_0.2.1.2 rfl rfl (Or.inl rfl) rfl ?_
  refine am_s_sipush am_cs150 dc143_0.2.2.1 ?_
  refine am_s_static dc143_0.2.2.2 rfl rfl rfl (am_mth_of rfl rfl ?_)
  refine am_s_iload_n rfl dc330_0.1.1 ?_
  refine am_s_iload_n rfl dc330_0.1.2.1 ?_
  refine am_s_ic_gt dc330_0.1.2.2 rfl (fun c1 => ?_) (fun c1 => ?_)
  · refine am_s_iload_n rfl dc330_0.2.2.1 ?_
    refine am_s_ireturn dc330_0.2.2.2 rfl (am_bkI ?_)
    exact am_s_virtual true dc143_1.1.1.1 rfl (by decide) rfl rfl rfl ((vi_t q c1))
  · refine am_s_iload_n rfl dc330_0.2.1.1 ?_
    refine am_s_goto rfl dc330_0.2.1.2 ?_
    refine am_s_ireturn dc330_0.2.2.2 rfl (am_bkI ?_)
    exact am_s_virtual true dc143_1.1.1.1 rfl (by decide) rfl rfl rfl ((vi_f q c1))
theorem v143_19 {sc : Option (Nat × (Nat → Int32))} {d k n : Nat} {P : am_O → Prop} {I : am_I} {J : am_J} {Pf : am_R} (hp : am_PF Pf) {x1 : Int32} {l2 : Option Value} (q : (if (I 108 2) < 16 then (am_mth d 52 [.ref 1, .int x1] (am_SH, I, J, Pf) (am_af sc d 143 50 [some (.ref 0), some (.int x1), some (.int 0)] [.int x1, .ref 1] [] (am_SH, I, J, Pf) k n false P)) else (am_mth d 52 [.ref 1, .int 0] (am_SH, I, J, Pf) (am_af sc d 143 50 [some (.ref 0), some (.int x1), some (.int 1)] [.int 0, .ref 1] [] (am_SH, I, J, Pf) k n false P)))) : am_go sc d 143 (19, [some (.ref 0), some (.int x1), l2], [], (am_SH, I, J, Pf), k, n) P := by
  refine am_s_aload_n rfl dc143_1.1.1.2 ?_
  refine am_s_getR (r := 108) dc143_1.1.2.1 rfl rfl rfl (hp _ _ _ rfl) ?_
  refine am_x_getI (x := I 108 2) dc143_1.1.2.2 rfl rfl (Or.inl rfl) rfl ?_
  refine am_s_bipush am_cb16 dc143_1.2.1.1 ?_
  refine am_s_ic_lt dc143_1.2.1.2 rfl (fun c1 => ?_) (fun c1 => ?_)
  · refine am_s_iconst am_cc0 dc143_2.1.1.1 ?_
    refine am_s_istore_n (ls' := [some (.ref 0), some (.int x1), some (.int 0)]) rfl rfl dc143_2.1.1.2 ?_
    refine am_s_aload_n rfl dc143_2.1.2.1 ?_
    refine am_s_getR (r := 1) dc143_2.1.2.2 rfl rfl rfl (hp _ _ _ rfl) ?_
    refine am_s_iload_n rfl dc143_2.2.1.1 ?_
    refine am_s_if_eq dc143_2.2.1.2 rfl (fun _ => ?_) (fun z => absurd z (by decide))
    refine am_s_iload_n rfl dc143_3.1.1.1 ?_
    exact am_s_virtual false dc143_3.1.1.2 rfl (by decide) rfl rfl rfl ((vi_t q c1))
  · refine am_s_iconst am_cc1 dc143_1.2.2.1 ?_
    refine am_s_goto rfl dc143_1.2.2.2 ?_
    refine am_s_istore_n (ls' := [some (.ref 0), some (.int x1), some (.int 1)]) rfl rfl dc143_2.1.1.2 ?_
    refine am_s_aload_n rfl dc143_2.1.2.1 ?_
    refine am_s_getR (r := 1) dc143_2.1.2.2 rfl rfl rfl (hp _ _ _ rfl) ?_
    refine am_s_iload_n rfl dc143_2.2.1.1 ?_
    refine am_s_if_eq dc143_2.2.1.2 rfl (fun z => absurd z (by decide)) (fun _ => ?_)
    refine am_s_iconst am_cc0 dc143_2.2.2.1 ?_
    refine am_s_goto rfl dc143_2.2.2.2 ?_
    exact am_s_virtual false dc143_3.1.1.2 rfl (by decide) rfl rfl rfl ((vi_f q c1))
theorem v143_53 {sc : Option (Nat × (Nat → Int32))} {d k n : Nat} {P : am_O → Prop} {I : am_I} {J : am_J} {Pf : am_R} (hp : am_PF Pf) {l1 : Option Value} {x2 : Int32} (q : (if x2 = 0 then (am_mth d 100 [.ref 102, .ref 1] (am_SH, am_u I 0 15 (-1), J, Pf) (am_af sc d 143 73 [some (.ref 0), l1, some (.int x2)] [.ref 1, .ref 102] [] (am_SH, am_u I 0 15 (-1), J, Pf) k n false P)) else (P (.inl (some (.int (-20))), (am_SH, am_u I 0 15 (-1), J, Pf), k, n)))) : am_go sc d 143 (53, [some (.ref 0), l1, some (.int x2)], [], (am_SH, I, J, Pf), k, n) P := by
  refine am_s_aload_n rfl dc143_3.1.2.1 ?_
  refine am_s_iconst am_ccm1 dc143_3.1.2.2 ?_
  refine am_s_putI dc143_3.2.1.1 rfl rfl rfl rfl ?_
  refine am_s_iload_n rfl dc143_3.2.1.2 ?_
  refine am_s_if_eq dc143_3.2.2.1 rfl (fun c1 => ?_) (fun c1 => ?_)
  · refine am_s_aload_n rfl dc143_4.1.1.2 ?_
    refine am_s_getR (r := 102) dc143_4.1.2.1 rfl rfl rfl (hp _ _ _ rfl) ?_
    refine am_s_aload_n rfl dc143_4.1.2.2 ?_
    refine am_s_getR (r := 1) dc143_4.2.1.1 rfl rfl rfl (hp _ _ _ rfl) ?_
    exact am_s_virtual false dc143_4.2.1.2 rfl (by decide) rfl rfl rfl ((vi_t q c1))
  · refine am_s_bipush am_cbm20 dc143_3.2.2.2 ?_
    exact am_s_ireturn dc143_4.1.1.1 rfl ((vi_f q c1))
theorem v143_76 {sc : Option (Nat × (Nat → Int32))} {d k n : Nat} {P : am_O → Prop} {I : am_I} {J : am_J} {Pf : am_R} (hp : am_PF Pf) {l1 : Option Value} {l2 : Option Value} {s0 : Int32} (q : (if s0 = 0 then (P (.inl (some (.int ((I 1 5) - 10))), (am_SH, am_u I 0 15 (I 102 7), J, Pf), k, n)) else (am_mth d 71 [.ref 108, .ref 135] (am_SH, I, J, Pf) (am_af sc d 143 109 [some (.ref 0), l1, l2] [.ref 135, .ref 108] [] (am_SH, I, J, Pf) k n false P)))) : am_go sc d 143 (76, [some (.ref 0), l1, l2], [.int s0], (am_SH, I, J, Pf), k, n) P := by
  refine am_s_if_ne dc143_4.2.2.1 rfl (fun c1 => ?_) (fun c1 => ?_)
  · refine am_s_aload_n rfl dc143_6.1.2.1 ?_
    refine am_s_getR (r := 108) dc143_6.1.2.2 rfl rfl rfl (hp _ _ _ rfl) ?_
    refine am_s_aload_n rfl dc143_6.2.1.1 ?_
    refine am_s_getR (r := 135) dc143_6.2.1.2 rfl rfl rfl (hp _ _ _ rfl) ?_
    exact am_s_virtual false dc143_6.2.2.1 rfl (by decide) rfl rfl rfl ((vi_f q c1))
  · refine am_s_aload_n rfl dc143_4.2.2.2 ?_
    refine am_s_aload_n rfl dc143_5.1.1.1 ?_
    refine am_s_getR (r := 102) dc143_5.1.1.2 rfl rfl rfl (hp _ _ _ rfl) ?_
    refine am_x_getI (x := I 102 7) dc143_5.1.2.1 rfl rfl (Or.inl rfl) rfl ?_
    refine am_s_putI dc143_5.1.2.2 rfl rfl rfl rfl ?_
    refine am_s_aload_n rfl dc143_5.2.1.1 ?_
    refine am_s_getR (r := 1) dc143_5.2.1.2 rfl rfl rfl (hp _ _ _ rfl) ?_
    refine am_x_getI (x := I 1 5) dc143_5.2.2.1 rfl rfl (Or.inl rfl) rfl ?_
    refine am_s_bipush am_cb10 dc143_5.2.2.2 ?_
    refine am_s_isub dc143_6.1.1.1 ?_
    exact am_s_ireturn dc143_6.1.1.2 rfl ((vi_t q (Decidable.not_not.mp c1)))
theorem v143_112 {sc : Option (Nat × (Nat → Int32))} {d k n : Nat} {P : am_O → Prop} {I : am_I} {J : am_J} {Pf : am_R} (hp : am_PF Pf) {l1 : Option Value} {l2 : Option Value} (q : (am_mth d 106 [.ref 102, .ref 135] (am_SH, I, J, Pf) (am_af sc d 143 120 [some (.ref 0), l1, l2] [.ref 135, .ref 102] [] (am_SH, I, J, Pf) k n false P))) : am_go sc d 143 (112, [some (.ref 0), l1, l2], [], (am_SH, I, J, Pf), k, n) P := by
  refine am_s_aload_n rfl dc143_6.2.2.2 ?_
  refine am_s_getR (r := 102) dc143_7.1.1.1 rfl rfl rfl (hp _ _ _ rfl) ?_
  refine am_s_aload_n rfl dc143_7.1.1.2 ?_
  refine am_s_getR (r := 135) dc143_7.1.2.1 rfl rfl rfl (hp _ _ _ rfl) ?_
  exact am_s_virtual false dc143_7.1.2.2 rfl (by decide) rfl rfl rfl (q)
theorem v143_123 {sc : Option (Nat × (Nat → Int32))} {d k n : Nat} {P : am_O → Prop} {I : am_I} {J : am_J} {Pf : am_R} (hp : am_PF Pf) {l1 : Option Value} {l2 : Option Value} (q : (P (.inl (some (.int (I 102 8))), (am_SH, am_u (am_u I 0 16 (I 102 9)) 0 12 0, J, Pf), k, n))) : am_go sc (d + 1) 143 (123, [some (.ref 0), l1, l2], [], (am_SH, I, J, Pf), k, n) P := by
  refine am_s_aload_n rfl dc143_7.2.1.1 ?_
  refine am_s_aload_n rfl dc143_7.2.1.2 ?_
  refine am_s_getR (r := 102) dc143_7.2.2.1 rfl rfl rfl (hp _ _ _ rfl) ?_
  refine am_x_getI (x := I 102 9) dc143_7.2.2.2 rfl rfl (Or.inl rfl) rfl ?_
  refine am_s_virtual true dc143_8.1.1 rfl (by decide) rfl rfl rfl (am_mth_of rfl rfl ?_)
  refine am_s_aload_n rfl dc179_0.1.1 ?_
  refine am_s_iload_n rfl dc179_0.1.2.1 ?_
  refine am_s_putI dc179_0.1.2.2 rfl rfl rfl rfl ?_
  refine am_s_aload_n rfl dc179_0.2.1.1 ?_
  refine am_s_iconst am_cc0 dc179_0.2.1.2 ?_
  refine am_s_putZ dc179_0.2.2.1 rfl rfl rfl rfl (by decide) ?_
  refine am_s_return dc179_0.2.2.2 rfl (am_bkV ?_)
  refine am_s_aload_n rfl dc143_8.1.2 ?_
  refine am_s_getR (r := 102) dc143_8.2.1 rfl rfl rfl (hp _ _ _ rfl) ?_
  refine am_x_getI (x := I 102 8) dc143_8.2.2.1 rfl rfl (Or.inl rfl) rfl ?_
  exact am_s_ireturn dc143_8.2.2.2 rfl (q)
-- fault ()I
theorem v144_0 {sc : Option (Nat × (Nat → Int32))} {d k n : Nat} {P : am_O → Prop} {I : am_I} {J : am_J} {Pf : am_R} (hp : am_PF Pf)  (q : (P (.inl (some (.int (I 1 6))), (am_SH, I, J, Pf), k, n))) : am_go sc d 144 (0, [some (.ref 0)], [], (am_SH, I, J, Pf), k, n) P := by
  refine am_s_aload_n rfl dc144_0.1.1 ?_
  refine am_s_getR (r := 1) dc144_0.1.2 rfl rfl rfl (hp _ _ _ rfl) ?_
  refine am_x_getI (x := I 1 6) dc144_0.2.1 rfl rfl (Or.inl rfl) rfl ?_
  exact am_s_ireturn dc144_0.2.2 rfl (q)
-- faulted ()I
theorem v145_0 {sc : Option (Nat × (Nat → Int32))} {d k n : Nat} {P : am_O → Prop} {I : am_I} {J : am_J} {Pf : am_R} (hp : am_PF Pf)  (q : (P (.inl (some (.int (I 0 15))), (am_SH, I, J, Pf), k, n))) : am_go sc d 145 (0, [some (.ref 0)], [], (am_SH, I, J, Pf), k, n) P := by
  refine am_s_aload_n rfl dc145_0.1 ?_
  refine am_x_getI (x := I 0 15) dc145_0.2.1 rfl rfl (Or.inl rfl) rfl ?_
  exact am_s_ireturn dc145_0.2.2 rfl (q)
-- undo ()I
theorem v146_0 {sc : Option (Nat × (Nat → Int32))} {d k n : Nat} {P : am_O → Prop} {I : am_I} {J : am_J} {Pf : am_R} (hp : am_PF Pf)  (q : (if (I 108 2) = 0 then (P (.inl (some (.int (-1))), (am_SH, I, J, Pf), k, n)) else (am_mth d 72 [.ref 108, .ref 135] (am_SH, I, J, Pf) (am_af sc d 146 20 [some (.ref 0)] [.ref 135, .ref 108] [] (am_SH, I, J, Pf) k n false P)))) : am_go sc d 146 (0, [some (.ref 0)], [], (am_SH, I, J, Pf), k, n) P := by
  refine am_s_aload_n rfl dc146_0.1.1.1 ?_
  refine am_s_getR (r := 108) dc146_0.1.1.2 rfl rfl rfl (hp _ _ _ rfl) ?_
  refine am_x_getI (x := I 108 2) dc146_0.1.2.1 rfl rfl (Or.inl rfl) rfl ?_
  refine am_s_if_ne dc146_0.1.2.2 rfl (fun c1 => ?_) (fun c1 => ?_)
  · refine am_s_aload_n rfl dc146_0.2.2.1 ?_
    refine am_s_getR (r := 108) dc146_0.2.2.2 rfl rfl rfl (hp _ _ _ rfl) ?_
    refine am_s_aload_n rfl dc146_1.1.1.1 ?_
    refine am_s_getR (r := 135) dc146_1.1.1.2 rfl rfl rfl (hp _ _ _ rfl) ?_
    exact am_s_virtual false dc146_1.1.2.1 rfl (by decide) rfl rfl rfl ((vi_f q c1))
  · refine am_s_iconst am_ccm1 dc146_0.2.1.1 ?_
    exact am_s_ireturn dc146_0.2.1.2 rfl ((vi_t q (Decidable.not_not.mp c1)))
theorem v146_23 {sc : Option (Nat × (Nat → Int32))} {d k n : Nat} {P : am_O → Prop} {I : am_I} {J : am_J} {Pf : am_R} (hp : am_PF Pf)  (q : (P (.inl (some (.int (I 108 2))), (am_SH, am_u (am_u I 0 16 0) 0 12 0, J, Pf), k, n))) : am_go sc (d + 1) 146 (23, [some (.ref 0)], [], (am_SH, I, J, Pf), k, n) P := by
  refine am_s_aload_n rfl dc146_1.1.2.2 ?_
  refine am_s_iconst am_cc0 dc146_1.2.1.1 ?_
  refine am_s_virtual true dc146_1.2.1.2 rfl (by decide) rfl rfl rfl (am_mth_of rfl rfl ?_)
  refine am_s_aload_n rfl dc179_0.1.1 ?_
  refine am_s_iload_n rfl dc179_0.1.2.1 ?_
  refine am_s_putI dc179_0.1.2.2 rfl rfl rfl rfl ?_
  refine am_s_aload_n rfl dc179_0.2.1.1 ?_
  refine am_s_iconst am_cc0 dc179_0.2.1.2 ?_
  refine am_s_putZ dc179_0.2.2.1 rfl rfl rfl rfl (by decide) ?_
  refine am_s_return dc179_0.2.2.2 rfl (am_bkV ?_)
  refine am_s_aload_n rfl dc146_1.2.2.1 ?_
  refine am_s_getR (r := 108) dc146_1.2.2.2 rfl rfl rfl (hp _ _ _ rfl) ?_
  refine am_x_getI (x := I 108 2) dc146_2.1 rfl rfl (Or.inl rfl) rfl ?_
  exact am_s_ireturn dc146_2.2 rfl (q)
-- told (I)I
theorem v147_0 {sc : Option (Nat × (Nat → Int32))} {d k n : Nat} {P : am_O → Prop} {I : am_I} {J : am_J} {Pf : am_R} (hp : am_PF Pf) {x1 : Int32} (q : (am_mth d 176 [.ref 0, .int x1, .int 0, .int 9] (am_SH, I, J, Pf) (am_af sc d 147 5 [some (.ref 0), some (.int x1)] [.int 9, .int 0, .int x1, .ref 0] [] (am_SH, I, J, Pf) k n true P))) : am_go sc d 147 (0, [some (.ref 0), some (.int x1)], [], (am_SH, I, J, Pf), k, n) P := by
  refine am_s_aload_n rfl dc147_0.1.1.1 ?_
  refine am_s_iload_n rfl dc147_0.1.1.2 ?_
  refine am_s_iconst am_cc0 dc147_0.1.2.1 ?_
  refine am_s_bipush am_cb9 dc147_0.1.2.2 ?_
  exact am_s_virtual true dc147_0.2.1.1 rfl (by decide) rfl rfl rfl (q)
theorem v147_8 {sc : Option (Nat × (Nat → Int32))} {d k n : Nat} {P : am_O → Prop} {I : am_I} {J : am_J} {Pf : am_R} (hp : am_PF Pf) {x1 : Int32} (q : (if x1 = 0 then ∃ r0_2x1 : Nat, (Pf 0 2 = some r0_2x1) ∧ (am_SH[r0_2x1]? = some (.inl 4)) ∧ (P (.inl (some (.int (I r0_2x1 1))), (am_SH, I, J, Pf), k, n)) else (if x1 = 1 then ∃ r0_2x2 : Nat, (Pf 0 2 = some r0_2x2) ∧ (am_SH[r0_2x2]? = some (.inl 4)) ∧ (P (.inl (some (.int (I r0_2x2 2))), (am_SH, I, J, Pf), k, n)) else (if x1 = 2 then ∃ r0_2x3 : Nat, (Pf 0 2 = some r0_2x3) ∧ (am_SH[r0_2x3]? = some (.inl 4)) ∧ (P (.inl (some (.int (I r0_2x3 9))), (am_SH, I, J, Pf), k, n)) else (if x1 = 3 then ∃ r0_2x4 : Nat, (Pf 0 2 = some r0_2x4) ∧ (am_SH[r0_2x4]? = some (.inl 4)) ∧ (P (.inl (some (.int (I r0_2x4 13))), (am_SH, I, J, Pf), k, n)) else (if x1 = 4 then ∃ r0_2x5 : Nat, (Pf 0 2 = some r0_2x5) ∧ (am_SH[r0_2x5]? = some (.inl 4)) ∧ (P (.inl (some (.int (I r0_2x5 16))), (am_SH, I, J, Pf), k, n)) else (if x1 = 5 then ∃ r0_2x6 : Nat, (Pf 0 2 = some r0_2x6) ∧ (am_SH[r0_2x6]? = some (.inl 4)) ∧ (P (.inl (some (.int (I r0_2x6 19))), (am_SH, I, J, Pf), k, n)) else (if x1 = 6 then ∃ r0_2x7 : Nat, (Pf 0 2 = some r0_2x7) ∧ (am_SH[r0_2x7]? = some (.inl 4)) ∧ (P (.inl (some (.int (I (r0_2x7 + 15) 4))), (am_SH, I, J, Pf), k, n)) else (if x1 = 7 then (am_mth d 180 [.ref 0] (am_SH, I, J, Pf) (am_af sc d 147 120 [some (.ref 0), some (.int x1)] [.ref 0] [] (am_SH, I, J, Pf) k n true P)) else (if x1 = 8 then (P (.inl (some (.int (I 135 1))), (am_SH, I, J, Pf), k, n)) else (P (.inl (some (.int (I 0 16))), (am_SH, I, J, Pf), k, n)))))))))))) : am_go sc d 147 (8, [some (.ref 0), some (.int x1)], [], (am_SH, I, J, Pf), k, n) P := by
  refine am_s_iload_n rfl dc147_0.2.1.2 ?_
  by_cases c1 : x1 = 0
  · refine am_s_tsw (v := 0) dc147_0.2.2.1 (by rw [c1]; decide) rfl rfl rfl ?_
    refine am_s_aload_n rfl dc147_0.2.2.2 ?_
    obtain ⟨r0_2x1, qx1⟩ := (vi_t q c1)
    refine am_s_getR (r := r0_2x1) dc147_1.1.1.1 rfl rfl rfl (qx1.1) ?_
    refine am_x_getI (x := I r0_2x1 1) dc147_1.1.1.2 rfl (qx1.2.1) (Or.inl rfl) rfl ?_
    exact am_s_ireturn dc147_1.1.2.1 rfl (qx1.2.2)
  by_cases c2 : x1 = 1
  · refine am_s_tsw (v := 1) dc147_0.2.2.1 (by rw [c2]; decide) rfl rfl rfl ?_
    refine am_s_aload_n rfl dc147_1.1.2.2 ?_
    obtain ⟨r0_2x2, qx2⟩ := (vi_t (vi_f q c1) c2)
    refine am_s_getR (r := r0_2x2) dc147_1.2.1.1 rfl rfl rfl (qx2.1) ?_
    refine am_x_getI (x := I r0_2x2 2) dc147_1.2.1.2 rfl (qx2.2.1) (Or.inl rfl) rfl ?_
    exact am_s_ireturn dc147_1.2.2.1 rfl (qx2.2.2)
  by_cases c3 : x1 = 2
  · refine am_s_tsw (v := 2) dc147_0.2.2.1 (by rw [c3]; decide) rfl rfl rfl ?_
    refine am_s_aload_n rfl dc147_1.2.2.2 ?_
    obtain ⟨r0_2x3, qx3⟩ := (vi_t (vi_f (vi_f q c1) c2) c3)
    refine am_s_getR (r := r0_2x3) dc147_2.1.1.1 rfl rfl rfl (qx3.1) ?_
    refine am_x_getI (x := I r0_2x3 9) dc147_2.1.1.2 rfl (qx3.2.1) (Or.inl rfl) rfl ?_
    exact am_s_ireturn dc147_2.1.2.1 rfl (qx3.2.2)
  by_cases c4 : x1 = 3
  · refine am_s_tsw (v := 3) dc147_0.2.2.1 (by rw [c4]; decide) rfl rfl rfl ?_
    refine am_s_aload_n rfl dc147_2.1.2.2 ?_
    obtain ⟨r0_2x4, qx4⟩ := (vi_t (vi_f (vi_f (vi_f q c1) c2) c3) c4)
    refine am_s_getR (r := r0_2x4) dc147_2.2.1.1 rfl rfl rfl (qx4.1) ?_
    refine am_x_getI (x := I r0_2x4 13) dc147_2.2.1.2 rfl (qx4.2.1) (Or.inl rfl) rfl ?_
    exact am_s_ireturn dc147_2.2.2.1 rfl (qx4.2.2)
  by_cases c5 : x1 = 4
  · refine am_s_tsw (v := 4) dc147_0.2.2.1 (by rw [c5]; decide) rfl rfl rfl ?_
    refine am_s_aload_n rfl dc147_2.2.2.2 ?_
    obtain ⟨r0_2x5, qx5⟩ := (vi_t (vi_f (vi_f (vi_f (vi_f q c1) c2) c3) c4) c5)
    refine am_s_getR (r := r0_2x5) dc147_3.1.1.1 rfl rfl rfl (qx5.1) ?_
    refine am_x_getI (x := I r0_2x5 16) dc147_3.1.1.2 rfl (qx5.2.1) (Or.inl rfl) rfl ?_
    exact am_s_ireturn dc147_3.1.2.1 rfl (qx5.2.2)
  by_cases c6 : x1 = 5
  · refine am_s_tsw (v := 5) dc147_0.2.2.1 (by rw [c6]; decide) rfl rfl rfl ?_
    refine am_s_aload_n rfl dc147_3.1.2.2 ?_
    obtain ⟨r0_2x6, qx6⟩ := (vi_t (vi_f (vi_f (vi_f (vi_f (vi_f q c1) c2) c3) c4) c5) c6)
    refine am_s_getR (r := r0_2x6) dc147_3.2.1.1 rfl rfl rfl (qx6.1) ?_
    refine am_x_getI (x := I r0_2x6 19) dc147_3.2.1.2 rfl (qx6.2.1) (Or.inl rfl) rfl ?_
    exact am_s_ireturn dc147_3.2.2.1 rfl (qx6.2.2)
  by_cases c7 : x1 = 6
  · refine am_s_tsw (v := 6) dc147_0.2.2.1 (by rw [c7]; decide) rfl rfl rfl ?_
    refine am_s_aload_n rfl dc147_3.2.2.2 ?_
    obtain ⟨r0_2x7, qx7⟩ := (vi_t (vi_f (vi_f (vi_f (vi_f (vi_f (vi_f q c1) c2) c3) c4) c5) c6) c7)
    refine am_s_getR (r := r0_2x7) dc147_4.1.1.1 rfl rfl rfl (qx7.1) ?_
    refine am_s_getR (r := r0_2x7 + 15) dc147_4.1.1.2 rfl (qx7.2.1) rfl (am_r4_20 hp (qx7.2.1)) ?_
    refine am_x_getI (x := I (r0_2x7 + 15) 4) dc147_4.1.2.1 rfl (am_h4_20 (qx7.2.1)) (Or.inl rfl) rfl ?_
    exact am_s_ireturn dc147_4.1.2.2 rfl (qx7.2.2)
  by_cases c8 : x1 = 7
  · refine am_s_tsw (v := 7) dc147_0.2.2.1 (by rw [c8]; decide) rfl rfl rfl ?_
    refine am_s_aload_n rfl dc147_4.2.1.1 ?_
    exact am_s_virtual true dc147_4.2.1.2 rfl (by decide) rfl rfl rfl ((vi_t (vi_f (vi_f (vi_f (vi_f (vi_f (vi_f (vi_f q c1) c2) c3) c4) c5) c6) c7) c8))
  by_cases c9 : x1 = 8
  · refine am_s_tsw (v := 8) dc147_0.2.2.1 (by rw [c9]; decide) rfl rfl rfl ?_
    refine am_s_aload_n rfl dc147_5.1.2.1 ?_
    refine am_s_getR (r := 135) dc147_5.1.2.2 rfl rfl rfl (hp _ _ _ rfl) ?_
    refine am_x_getI (x := I 135 1) dc147_5.2.1.1 rfl rfl (Or.inl rfl) rfl ?_
    exact am_s_ireturn dc147_5.2.1.2 rfl ((vi_t (vi_f (vi_f (vi_f (vi_f (vi_f (vi_f (vi_f (vi_f q c1) c2) c3) c4) c5) c6) c7) c8) c9))
  refine am_s_tswd dc147_0.2.2.1 (by have e1 := sw_n c1 (i := 0) (by decide); have e2 := sw_n c2 (i := 1) (by decide); have e3 := sw_n c3 (i := 2) (by decide); have e4 := sw_n c4 (i := 3) (by decide); have e5 := sw_n c5 (i := 4) (by decide); have e6 := sw_n c6 (i := 5) (by decide); have e7 := sw_n c7 (i := 6) (by decide); have e8 := sw_n c8 (i := 7) (by decide); have e9 := sw_n c9 (i := 8) (by decide); simp only [Bool.or_eq_true, decide_eq_true_eq]; omega) rfl ?_
  refine am_s_aload_n rfl dc147_5.2.2.1 ?_
  refine am_x_getI (x := I 0 16) dc147_5.2.2.2 rfl rfl (Or.inl rfl) rfl ?_
  exact am_s_ireturn dc147_6 rfl ((vi_f (vi_f (vi_f (vi_f (vi_f (vi_f (vi_f (vi_f (vi_f q c1) c2) c3) c4) c5) c6) c7) c8) c9))
theorem v147_123 {sc : Option (Nat × (Nat → Int32))} {d k n : Nat} {P : am_O → Prop} {I : am_I} {J : am_J} {Pf : am_R} (hp : am_PF Pf) {l1 : Option Value} (q : (am_mth d 119 [.ref 135] (am_SH, I, J, Pf) (am_af sc d 147 127 [some (.ref 0), l1] [.ref 135] [] (am_SH, I, J, Pf) k n false P))) : am_go sc d 147 (123, [some (.ref 0), l1], [], (am_SH, I, J, Pf), k, n) P := by
  refine am_s_aload_n rfl dc147_4.2.2.1 ?_
  refine am_s_getR (r := 135) dc147_4.2.2.2 rfl rfl rfl (hp _ _ _ rfl) ?_
  exact am_s_virtual false dc147_5.1.1.1 rfl (by decide) rfl rfl rfl (q)
theorem v147_130 {sc : Option (Nat × (Nat → Int32))} {d k n : Nat} {P : am_O → Prop} {I : am_I} {J : am_J} {Pf : am_R} (hp : am_PF Pf) {l0 : Option Value} {l1 : Option Value} {s0 : Int32} (q : (P (.inl (some (.int s0)), (am_SH, I, J, Pf), k, n))) : am_go sc d 147 (130, [l0, l1], [.int s0], (am_SH, I, J, Pf), k, n) P := by
  exact am_s_ireturn dc147_5.1.1.2 rfl (q)
-- group (II)I
theorem v148_0 {sc : Option (Nat × (Nat → Int32))} {d k n : Nat} {P : am_O → Prop} {I : am_I} {J : am_J} {Pf : am_R} (hp : am_PF Pf) {x1 : Int32} {x2 : Int32} {l3 : Option Value} (q : ∃ r0_2x1 : Nat, (Pf 0 2 = some r0_2x1) ∧ (am_SH[r0_2x1]? = some (.inl 4)) ∧ (am_mth d 175 [.ref 0, .int x1, .int (I r0_2x1 1)] (am_SH, I, J, Pf) (am_af sc d 148 9 [some (.ref 0), some (.int x1), some (.int x2), l3] [.int (I r0_2x1 1), .int x1, .ref 0] [] (am_SH, I, J, Pf) k n true P))) : am_go sc d 148 (0, [some (.ref 0), some (.int x1), some (.int x2), l3], [], (am_SH, I, J, Pf), k, n) P := by
  refine am_s_aload_n rfl dc148_0.1.1.1 ?_
  refine am_s_iload_n rfl dc148_0.1.1.2 ?_
  refine am_s_aload_n rfl dc148_0.1.2.1 ?_
  obtain ⟨r0_2x1, qx1⟩ := q
  refine am_s_getR (r := r0_2x1) dc148_0.1.2.2 rfl rfl rfl (qx1.1) ?_
  refine am_x_getI (x := I r0_2x1 1) dc148_0.2.1.1 rfl (qx1.2.1) (Or.inl rfl) rfl ?_
  exact am_s_virtual true dc148_0.2.1.2 rfl (by decide) rfl rfl rfl (qx1.2.2)
theorem v148_12 {sc : Option (Nat × (Nat → Int32))} {d k n : Nat} {P : am_O → Prop} {I : am_I} {J : am_J} {Pf : am_R} (hp : am_PF Pf) {x1 : Int32} {x2 : Int32} {l3 : Option Value} (q : (am_mth d 176 [.ref 0, .int x2, .int 0, .int 3] (am_SH, I, J, Pf) (am_af sc d 148 16 [some (.ref 0), some (.int x1), some (.int x2), l3] [.int 3, .int 0, .int x2, .ref 0] [] (am_SH, I, J, Pf) k n true P))) : am_go sc d 148 (12, [some (.ref 0), some (.int x1), some (.int x2), l3], [], (am_SH, I, J, Pf), k, n) P := by
  refine am_s_aload_n rfl dc148_0.2.2.1 ?_
  refine am_s_iload_n rfl dc148_0.2.2.2 ?_
  refine am_s_iconst am_cc0 dc148_1.1.1.1 ?_
  refine am_s_iconst am_cc3 dc148_1.1.1.2 ?_
  exact am_s_virtual true dc148_1.1.2.1 rfl (by decide) rfl rfl rfl (q)
theorem v148_19 {sc : Option (Nat × (Nat → Int32))} {d k n : Nat} {P : am_O → Prop} {I : am_I} {J : am_J} {Pf : am_R} (hp : am_PF Pf) {x1 : Int32} {x2 : Int32} {l3 : Option Value} (q : ∃ r0_2x1 : Nat, (Pf 0 2 = some r0_2x1) ∧ (am_SH[r0_2x1]? = some (.inl 4)) ∧ (am_in x1 8 = true) ∧ ∃ r27x2 : Nat, (Pf (r0_2x1 + 1) (Int32.toNatClampNeg x1) = some r27x2) ∧ (am_SH[r27x2]? = some (.inl 6)) ∧ (if x2 = 0 then (am_mth d 83 [.ref r27x2] (am_SH, I, J, Pf) (am_af sc d 148 57 [some (.ref 0), some (.int x1), some (.int x2), some (.ref r27x2)] [.ref r27x2] [] (am_SH, I, J, Pf) k n false P)) else (if x2 = 1 then (am_mth d 87 [.ref r27x2] (am_SH, I, J, Pf) (am_af sc d 148 62 [some (.ref 0), some (.int x1), some (.int x2), some (.ref r27x2)] [.ref r27x2] [] (am_SH, I, J, Pf) k n false P)) else (if x2 = 2 then (am_mth d 88 [.ref r27x2] (am_SH, I, J, Pf) (am_af sc d 148 67 [some (.ref 0), some (.int x1), some (.int x2), some (.ref r27x2)] [.ref r27x2] [] (am_SH, I, J, Pf) k n false P)) else (am_mth d 89 [.ref r27x2] (am_SH, I, J, Pf) (am_af sc d 148 72 [some (.ref 0), some (.int x1), some (.int x2), some (.ref r27x2)] [.ref r27x2] [] (am_SH, I, J, Pf) k n false P)))))) : am_go sc d 148 (19, [some (.ref 0), some (.int x1), some (.int x2), l3], [], (am_SH, I, J, Pf), k, n) P := by
  refine am_s_aload_n rfl dc148_1.1.2.2 ?_
  obtain ⟨r0_2x1, qx1⟩ := q
  refine am_s_getR (r := r0_2x1) dc148_1.2.1.1 rfl rfl rfl (qx1.1) ?_
  refine am_s_getR (r := r0_2x1 + 1) dc148_1.2.1.2 rfl (qx1.2.1) rfl (am_r4_0 hp (qx1.2.1)) ?_
  refine am_s_iload_n rfl dc148_1.2.2.1 ?_
  obtain ⟨r27x2, qx2⟩ := qx1.2.2.2
  refine am_s_aaload (r := r27x2) dc148_1.2.2.2 (am_h4_0 (qx1.2.1)) rfl (qx1.2.2.1) (qx2.1) ?_
  refine am_s_astore_n (ls' := [some (.ref 0), some (.int x1), some (.int x2), some (.ref r27x2)]) rfl rfl dc148_2.1.1.1 ?_
  refine am_s_iload_n rfl dc148_2.1.1.2 ?_
  by_cases c1 : x2 = 0
  · refine am_s_tsw (v := 0) dc148_2.1.2.1 (by rw [c1]; decide) rfl rfl rfl ?_
    refine am_s_aload_n rfl dc148_2.1.2.2 ?_
    exact am_s_virtual false dc148_2.2.1.1 rfl (by decide) rfl (qx2.2.1) rfl ((vi_t qx2.2.2 c1))
  by_cases c2 : x2 = 1
  · refine am_s_tsw (v := 1) dc148_2.1.2.1 (by rw [c2]; decide) rfl rfl rfl ?_
    refine am_s_aload_n rfl dc148_2.2.2.1 ?_
    exact am_s_virtual false dc148_2.2.2.2 rfl (by decide) rfl (qx2.2.1) rfl ((vi_t (vi_f qx2.2.2 c1) c2))
  by_cases c3 : x2 = 2
  · refine am_s_tsw (v := 2) dc148_2.1.2.1 (by rw [c3]; decide) rfl rfl rfl ?_
    refine am_s_aload_n rfl dc148_3.1.2.1 ?_
    exact am_s_virtual false dc148_3.1.2.2 rfl (by decide) rfl (qx2.2.1) rfl ((vi_t (vi_f (vi_f qx2.2.2 c1) c2) c3))
  refine am_s_tswd dc148_2.1.2.1 (by have e1 := sw_n c1 (i := 0) (by decide); have e2 := sw_n c2 (i := 1) (by decide); have e3 := sw_n c3 (i := 2) (by decide); simp only [Bool.or_eq_true, decide_eq_true_eq]; omega) rfl ?_
  refine am_s_aload_n rfl dc148_3.2.1.2 ?_
  exact am_s_virtual false dc148_3.2.2.1 rfl (by decide) rfl (qx2.2.1) rfl ((vi_f (vi_f (vi_f qx2.2.2 c1) c2) c3))
theorem v148_60 {sc : Option (Nat × (Nat → Int32))} {d k n : Nat} {P : am_O → Prop} {I : am_I} {J : am_J} {Pf : am_R} (hp : am_PF Pf) {l0 : Option Value} {l1 : Option Value} {l2 : Option Value} {l3 : Option Value} {s0 : Int32} (q : (P (.inl (some (.int s0)), (am_SH, I, J, Pf), k, n))) : am_go sc d 148 (60, [l0, l1, l2, l3], [.int s0], (am_SH, I, J, Pf), k, n) P := by
  exact am_s_ireturn dc148_2.2.1.2 rfl (q)
theorem v148_65 {sc : Option (Nat × (Nat → Int32))} {d k n : Nat} {P : am_O → Prop} {I : am_I} {J : am_J} {Pf : am_R} (hp : am_PF Pf) {l0 : Option Value} {l1 : Option Value} {l2 : Option Value} {l3 : Option Value} {s0 : Int32} (q : (P (.inl (some (.int s0)), (am_SH, I, J, Pf), k, n))) : am_go sc d 148 (65, [l0, l1, l2, l3], [.int s0], (am_SH, I, J, Pf), k, n) P := by
  exact am_s_ireturn dc148_3.1.1 rfl (q)
theorem v148_70 {sc : Option (Nat × (Nat → Int32))} {d k n : Nat} {P : am_O → Prop} {I : am_I} {J : am_J} {Pf : am_R} (hp : am_PF Pf) {l0 : Option Value} {l1 : Option Value} {l2 : Option Value} {l3 : Option Value} {s0 : Int32} (q : (P (.inl (some (.int s0)), (am_SH, I, J, Pf), k, n))) : am_go sc d 148 (70, [l0, l1, l2, l3], [.int s0], (am_SH, I, J, Pf), k, n) P := by
  exact am_s_ireturn dc148_3.2.1.1 rfl (q)
theorem v148_75 {sc : Option (Nat × (Nat → Int32))} {d k n : Nat} {P : am_O → Prop} {I : am_I} {J : am_J} {Pf : am_R} (hp : am_PF Pf) {l0 : Option Value} {l1 : Option Value} {l2 : Option Value} {l3 : Option Value} {s0 : Int32} (q : (P (.inl (some (.int s0)), (am_SH, I, J, Pf), k, n))) : am_go sc d 148 (75, [l0, l1, l2, l3], [.int s0], (am_SH, I, J, Pf), k, n) P := by
  exact am_s_ireturn dc148_3.2.2.2 rfl (q)
-- holds (II)Z
theorem v149_0 {sc : Option (Nat × (Nat → Int32))} {d k n : Nat} {P : am_O → Prop} {I : am_I} {J : am_J} {Pf : am_R} (hp : am_PF Pf) {x1 : Int32} {x2 : Int32} (q : ∃ r0_2x1 : Nat, (Pf 0 2 = some r0_2x1) ∧ (am_SH[r0_2x1]? = some (.inl 4)) ∧ (am_mth d 175 [.ref 0, .int x1, .int (I r0_2x1 1)] (am_SH, I, J, Pf) (am_af sc d 149 9 [some (.ref 0), some (.int x1), some (.int x2)] [.int (I r0_2x1 1), .int x1, .ref 0] [] (am_SH, I, J, Pf) k n true P))) : am_go sc d 149 (0, [some (.ref 0), some (.int x1), some (.int x2)], [], (am_SH, I, J, Pf), k, n) P := by
  refine am_s_aload_n rfl dc149_0.1.1.1 ?_
  refine am_s_iload_n rfl dc149_0.1.1.2 ?_
  refine am_s_aload_n rfl dc149_0.1.2.1 ?_
  obtain ⟨r0_2x1, qx1⟩ := q
  refine am_s_getR (r := r0_2x1) dc149_0.1.2.2 rfl rfl rfl (qx1.1) ?_
  refine am_x_getI (x := I r0_2x1 1) dc149_0.2.1.1 rfl (qx1.2.1) (Or.inl rfl) rfl ?_
  exact am_s_virtual true dc149_0.2.1.2 rfl (by decide) rfl rfl rfl (qx1.2.2)
theorem v149_12 {sc : Option (Nat × (Nat → Int32))} {d k n : Nat} {P : am_O → Prop} {I : am_I} {J : am_J} {Pf : am_R} (hp : am_PF Pf) {x1 : Int32} {x2 : Int32} (q : (am_mth d 176 [.ref 0, .int x2, .int 32, .int 126] (am_SH, I, J, Pf) (am_af sc d 149 18 [some (.ref 0), some (.int x1), some (.int x2)] [.int 126, .int 32, .int x2, .ref 0] [] (am_SH, I, J, Pf) k n true P))) : am_go sc d 149 (12, [some (.ref 0), some (.int x1), some (.int x2)], [], (am_SH, I, J, Pf), k, n) P := by
  refine am_s_aload_n rfl dc149_0.2.2.1 ?_
  refine am_s_iload_n rfl dc149_0.2.2.2 ?_
  refine am_s_bipush am_cb32 dc149_1.1.1.1 ?_
  refine am_s_bipush am_cb126 dc149_1.1.1.2 ?_
  exact am_s_virtual true dc149_1.1.2.1 rfl (by decide) rfl rfl rfl (q)
theorem v149_21 {sc : Option (Nat × (Nat → Int32))} {d k n : Nat} {P : am_O → Prop} {I : am_I} {J : am_J} {Pf : am_R} (hp : am_PF Pf) {x1 : Int32} {x2 : Int32} (q : ∃ r0_2x1 : Nat, (Pf 0 2 = some r0_2x1) ∧ (am_SH[r0_2x1]? = some (.inl 4)) ∧ (am_in x1 8 = true) ∧ ∃ r29x2 : Nat, (Pf (r0_2x1 + 1) (Int32.toNatClampNeg x1) = some r29x2) ∧ (am_SH[r29x2]? = some (.inl 6)) ∧ (am_mth d 78 [.ref r29x2, .int x2] (am_SH, I, J, Pf) (am_af sc d 149 31 [some (.ref 0), some (.int x1), some (.int x2)] [.int x2, .ref r29x2] [] (am_SH, I, J, Pf) k n false P))) : am_go sc d 149 (21, [some (.ref 0), some (.int x1), some (.int x2)], [], (am_SH, I, J, Pf), k, n) P := by
  refine am_s_aload_n rfl dc149_1.1.2.2 ?_
  obtain ⟨r0_2x1, qx1⟩ := q
  refine am_s_getR (r := r0_2x1) dc149_1.2.1.1 rfl rfl rfl (qx1.1) ?_
  refine am_s_getR (r := r0_2x1 + 1) dc149_1.2.1.2 rfl (qx1.2.1) rfl (am_r4_0 hp (qx1.2.1)) ?_
  refine am_s_iload_n rfl dc149_1.2.2.1 ?_
  obtain ⟨r29x2, qx2⟩ := qx1.2.2.2
  refine am_s_aaload (r := r29x2) dc149_1.2.2.2 (am_h4_0 (qx1.2.1)) rfl (qx1.2.2.1) (qx2.1) ?_
  refine am_s_iload_n rfl dc149_2.1 ?_
  exact am_s_virtual false dc149_2.2.1 rfl (by decide) rfl (qx2.2.1) rfl (qx2.2.2)
theorem v149_34 {sc : Option (Nat × (Nat → Int32))} {d k n : Nat} {P : am_O → Prop} {I : am_I} {J : am_J} {Pf : am_R} (hp : am_PF Pf) {l0 : Option Value} {l1 : Option Value} {l2 : Option Value} {s0 : Int32} (q : (s0 = 0 ∨ s0 = 1) ∧ (P (.inl (some (.int s0)), (am_SH, I, J, Pf), k, n))) : am_go sc d 149 (34, [l0, l1, l2], [.int s0], (am_SH, I, J, Pf), k, n) P := by
  exact am_s_zreturn dc149_2.2.2 rfl (q.1) (q.2)
-- beside (II)I
theorem v150_0 {sc : Option (Nat × (Nat → Int32))} {d k n : Nat} {P : am_O → Prop} {I : am_I} {J : am_J} {Pf : am_R} (hp : am_PF Pf) {x1 : Int32} {x2 : Int32} {l3 : Option Value} {l4 : Option Value} (q : ∃ r0_2x1 : Nat, (Pf 0 2 = some r0_2x1) ∧ (am_SH[r0_2x1]? = some (.inl 4)) ∧ (am_mth d 175 [.ref 0, .int x1, .int (I r0_2x1 1)] (am_SH, I, J, Pf) (am_af sc d 150 9 [some (.ref 0), some (.int x1), some (.int x2), l3, l4] [.int (I r0_2x1 1), .int x1, .ref 0] [] (am_SH, I, J, Pf) k n true P))) : am_go sc d 150 (0, [some (.ref 0), some (.int x1), some (.int x2), l3, l4], [], (am_SH, I, J, Pf), k, n) P := by
  refine am_s_aload_n rfl dc150_0.1.1.1 ?_
  refine am_s_iload_n rfl dc150_0.1.1.2 ?_
  refine am_s_aload_n rfl dc150_0.1.2.1 ?_
  obtain ⟨r0_2x1, qx1⟩ := q
  refine am_s_getR (r := r0_2x1) dc150_0.1.2.2 rfl rfl rfl (qx1.1) ?_
  refine am_x_getI (x := I r0_2x1 1) dc150_0.2.1.1 rfl (qx1.2.1) (Or.inl rfl) rfl ?_
  exact am_s_virtual true dc150_0.2.1.2 rfl (by decide) rfl rfl rfl (qx1.2.2)
theorem v150_12 {sc : Option (Nat × (Nat → Int32))} {d k n : Nat} {P : am_O → Prop} {I : am_I} {J : am_J} {Pf : am_R} (hp : am_PF Pf) {x1 : Int32} {x2 : Int32} {l3 : Option Value} {l4 : Option Value} (q : ∃ r0_2x1 : Nat, (Pf 0 2 = some r0_2x1) ∧ (am_SH[r0_2x1]? = some (.inl 4)) ∧ (am_mth d 175 [.ref 0, .int x2, .int (I r0_2x1 1)] (am_SH, I, J, Pf) (am_af sc d 150 21 [some (.ref 0), some (.int x1), some (.int x2), l3, l4] [.int (I r0_2x1 1), .int x2, .ref 0] [] (am_SH, I, J, Pf) k n true P))) : am_go sc d 150 (12, [some (.ref 0), some (.int x1), some (.int x2), l3, l4], [], (am_SH, I, J, Pf), k, n) P := by
  refine am_s_aload_n rfl dc150_0.2.2.1 ?_
  refine am_s_iload_n rfl dc150_0.2.2.2 ?_
  refine am_s_aload_n rfl dc150_1.1.1.1 ?_
  obtain ⟨r0_2x1, qx1⟩ := q
  refine am_s_getR (r := r0_2x1) dc150_1.1.1.2 rfl rfl rfl (qx1.1) ?_
  refine am_x_getI (x := I r0_2x1 1) dc150_1.1.2.1 rfl (qx1.2.1) (Or.inl rfl) rfl ?_
  exact am_s_virtual true dc150_1.1.2.2 rfl (by decide) rfl rfl rfl (qx1.2.2)
theorem v150_24 {sc : Option (Nat × (Nat → Int32))} {d k n : Nat} {P : am_O → Prop} {I : am_I} {J : am_J} {Pf : am_R} (hp : am_PF Pf) {x1 : Int32} {x2 : Int32} {l3 : Option Value} {l4 : Option Value} (q : ∃ r0_2x1 : Nat, (Pf 0 2 = some r0_2x1) ∧ (am_SH[r0_2x1]? = some (.inl 4)) ∧ (am_in x1 8 = true) ∧ ∃ r32x2 : Nat, (Pf (r0_2x1 + 1) (Int32.toNatClampNeg x1) = some r32x2) ∧ (am_SH[r32x2]? = some (.inl 6)) ∧ (am_in x2 8 = true) ∧ ∃ r42x3 : Nat, (Pf (r0_2x1 + 1) (Int32.toNatClampNeg x2) = some r42x3) ∧ (am_SH[r42x3]? = some (.inl 6)) ∧ (am_mth d 84 [.ref r32x2, .ref r42x3] (am_SH, I, J, Pf) (am_af sc d 150 48 [some (.ref 0), some (.int x1), some (.int x2), some (.ref r32x2), some (.ref r42x3)] [.ref r42x3, .ref r32x2] [] (am_SH, I, J, Pf) k n false P))) : am_go sc d 150 (24, [some (.ref 0), some (.int x1), some (.int x2), l3, l4], [], (am_SH, I, J, Pf), k, n) P := by
  refine am_s_aload_n rfl dc150_1.2.1.1 ?_
  obtain ⟨r0_2x1, qx1⟩ := q
  refine am_s_getR (r := r0_2x1) dc150_1.2.1.2 rfl rfl rfl (qx1.1) ?_
  refine am_s_getR (r := r0_2x1 + 1) dc150_1.2.2.1 rfl (qx1.2.1) rfl (am_r4_0 hp (qx1.2.1)) ?_
  refine am_s_iload_n rfl dc150_1.2.2.2 ?_
  obtain ⟨r32x2, qx2⟩ := qx1.2.2.2
  refine am_s_aaload (r := r32x2) dc150_2.1.1.1 (am_h4_0 (qx1.2.1)) rfl (qx1.2.2.1) (qx2.1) ?_
  refine am_s_astore_n (ls' := [some (.ref 0), some (.int x1), some (.int x2), some (.ref r32x2), l4]) rfl rfl dc150_2.1.1.2 ?_
  refine am_s_aload_n rfl dc150_2.1.2.1 ?_
  refine am_s_getR (r := r0_2x1) dc150_2.1.2.2 rfl rfl rfl (qx1.1) ?_
  refine am_s_getR (r := r0_2x1 + 1) dc150_2.2.1.1 rfl (qx1.2.1) rfl (am_r4_0 hp (qx1.2.1)) ?_
  refine am_s_iload_n rfl dc150_2.2.1.2 ?_
  obtain ⟨r42x3, qx3⟩ := qx2.2.2.2
  refine am_s_aaload (r := r42x3) dc150_2.2.2.1 (am_h4_0 (qx1.2.1)) rfl (qx2.2.2.1) (qx3.1) ?_
  refine am_s_astore (ls' := [some (.ref 0), some (.int x1), some (.int x2), some (.ref r32x2), some (.ref r42x3)]) rfl rfl dc150_2.2.2.2 ?_
  refine am_s_aload_n rfl dc150_3.1.1.1 ?_
  refine am_s_aload rfl dc150_3.1.1.2 ?_
  exact am_s_virtual false dc150_3.1.2.1 rfl (by decide) rfl (qx2.2.1) rfl (qx3.2.2)
theorem v150_51 {sc : Option (Nat × (Nat → Int32))} {d k n : Nat} {P : am_O → Prop} {I : am_I} {J : am_J} {Pf : am_R} (hp : am_PF Pf) {l0 : Option Value} {l1 : Option Value} {l2 : Option Value} {x3 : Nat} (hx3 : am_SH[x3]? = some (.inl 6)) {x4 : Nat} (hx4 : am_SH[x4]? = some (.inl 6)) {s0 : Int32} (q : (if s0 = 0 then (am_mth d 86 [.ref x3, .ref x4] (am_SH, I, J, Pf) (am_af sc d 150 59 [l0, l1, l2, some (.ref x3), some (.ref x4)] [.ref x4, .ref x3] [] (am_SH, I, J, Pf) k n false P)) else (P (.inl (some (.int 1)), (am_SH, I, J, Pf), k, n)))) : am_go sc d 150 (51, [l0, l1, l2, some (.ref x3), some (.ref x4)], [.int s0], (am_SH, I, J, Pf), k, n) P := by
  refine am_s_if_eq dc150_3.1.2.2 rfl (fun c1 => ?_) (fun c1 => ?_)
  · refine am_s_aload_n rfl dc150_3.2.2.1 ?_
    refine am_s_aload rfl dc150_3.2.2.2 ?_
    exact am_s_virtual false dc150_4.1.1.1 rfl (by decide) rfl hx3 rfl ((vi_t q c1))
  · refine am_s_iconst am_cc1 dc150_3.2.1.1 ?_
    exact am_s_ireturn dc150_3.2.1.2 rfl ((vi_f q c1))
theorem v150_62 {sc : Option (Nat × (Nat → Int32))} {d k n : Nat} {P : am_O → Prop} {I : am_I} {J : am_J} {Pf : am_R} (hp : am_PF Pf) {l0 : Option Value} {l1 : Option Value} {l2 : Option Value} {x3 : Nat} (hx3 : am_SH[x3]? = some (.inl 6)) {x4 : Nat} (hx4 : am_SH[x4]? = some (.inl 6)) {s0 : Int32} (q : (if s0 = 0 then (P (.inl (some (.int 0)), (am_SH, I, J, Pf), k, n)) else (am_mth d 85 [.ref x3, .ref x4] (am_SH, I, J, Pf) (am_af sc d 150 70 [l0, l1, l2, some (.ref x3), some (.ref x4)] [.ref x4, .ref x3] [] (am_SH, I, J, Pf) k n false P)))) : am_go sc d 150 (62, [l0, l1, l2, some (.ref x3), some (.ref x4)], [.int s0], (am_SH, I, J, Pf), k, n) P := by
  refine am_s_if_ne dc150_4.1.1.2 rfl (fun c1 => ?_) (fun c1 => ?_)
  · refine am_s_aload_n rfl dc150_4.2.1.1 ?_
    refine am_s_aload rfl dc150_4.2.1.2 ?_
    exact am_s_virtual false dc150_4.2.2.1 rfl (by decide) rfl hx3 rfl ((vi_f q c1))
  · refine am_s_iconst am_cc0 dc150_4.1.2.1 ?_
    exact am_s_ireturn dc150_4.1.2.2 rfl ((vi_t q (Decidable.not_not.mp c1)))
theorem v150_73 {sc : Option (Nat × (Nat → Int32))} {d k n : Nat} {P : am_O → Prop} {I : am_I} {J : am_J} {Pf : am_R} (hp : am_PF Pf) {l0 : Option Value} {l1 : Option Value} {l2 : Option Value} {x3 : Nat} (hx3 : am_SH[x3]? = some (.inl 6)) {x4 : Nat} (hx4 : am_SH[x4]? = some (.inl 6)) {s0 : Int32} (q : (if s0 = 0 then (am_mth d 85 [.ref x4, .ref x3] (am_SH, I, J, Pf) (am_af sc d 150 81 [l0, l1, l2, some (.ref x3), some (.ref x4)] [.ref x3, .ref x4] [] (am_SH, I, J, Pf) k n false P)) else (P (.inl (some (.int 2)), (am_SH, I, J, Pf), k, n)))) : am_go sc d 150 (73, [l0, l1, l2, some (.ref x3), some (.ref x4)], [.int s0], (am_SH, I, J, Pf), k, n) P := by
  refine am_s_if_eq dc150_4.2.2.2 rfl (fun c1 => ?_) (fun c1 => ?_)
  · refine am_s_aload rfl dc150_5.1.2.1 ?_
    refine am_s_aload_n rfl dc150_5.1.2.2 ?_
    exact am_s_virtual false dc150_5.2.1.1 rfl (by decide) rfl hx4 rfl ((vi_t q c1))
  · refine am_s_iconst am_cc2 dc150_5.1.1.1 ?_
    exact am_s_ireturn dc150_5.1.1.2 rfl ((vi_f q c1))
theorem v150_84 {sc : Option (Nat × (Nat → Int32))} {d k n : Nat} {P : am_O → Prop} {I : am_I} {J : am_J} {Pf : am_R} (hp : am_PF Pf) {l0 : Option Value} {l1 : Option Value} {l2 : Option Value} {l3 : Option Value} {l4 : Option Value} {s0 : Int32} (q : (if s0 = 0 then (P (.inl (some (.int 4)), (am_SH, I, J, Pf), k, n)) else (P (.inl (some (.int 3)), (am_SH, I, J, Pf), k, n)))) : am_go sc d 150 (84, [l0, l1, l2, l3, l4], [.int s0], (am_SH, I, J, Pf), k, n) P := by
  refine am_s_if_eq dc150_5.2.1.2 rfl (fun c1 => ?_) (fun c1 => ?_)
  · refine am_s_iconst am_cc4 dc150_6.1 ?_
    exact am_s_ireturn dc150_6.2 rfl ((vi_t q c1))
  · refine am_s_iconst am_cc3 dc150_5.2.2.1 ?_
    refine am_s_goto rfl dc150_5.2.2.2 ?_
    exact am_s_ireturn dc150_6.2 rfl ((vi_f q c1))
-- production (II)I
theorem v151_0 {sc : Option (Nat × (Nat → Int32))} {d k n : Nat} {P : am_O → Prop} {I : am_I} {J : am_J} {Pf : am_R} (hp : am_PF Pf) {x1 : Int32} {x2 : Int32} (q : ∃ r0_2x1 : Nat, (Pf 0 2 = some r0_2x1) ∧ (am_SH[r0_2x1]? = some (.inl 4)) ∧ (am_mth d 175 [.ref 0, .int x1, .int (I r0_2x1 2)] (am_SH, I, J, Pf) (am_af sc d 151 9 [some (.ref 0), some (.int x1), some (.int x2)] [.int (I r0_2x1 2), .int x1, .ref 0] [] (am_SH, I, J, Pf) k n true P))) : am_go sc d 151 (0, [some (.ref 0), some (.int x1), some (.int x2)], [], (am_SH, I, J, Pf), k, n) P := by
  refine am_s_aload_n rfl dc151_0.1.1.1 ?_
  refine am_s_iload_n rfl dc151_0.1.1.2 ?_
  refine am_s_aload_n rfl dc151_0.1.2.1 ?_
  obtain ⟨r0_2x1, qx1⟩ := q
  refine am_s_getR (r := r0_2x1) dc151_0.1.2.2 rfl rfl rfl (qx1.1) ?_
  refine am_x_getI (x := I r0_2x1 2) dc151_0.2.1.1 rfl (qx1.2.1) (Or.inl rfl) rfl ?_
  exact am_s_virtual true dc151_0.2.1.2 rfl (by decide) rfl rfl rfl (qx1.2.2)
theorem v151_12 {sc : Option (Nat × (Nat → Int32))} {d k n : Nat} {P : am_O → Prop} {I : am_I} {J : am_J} {Pf : am_R} (hp : am_PF Pf) {x1 : Int32} {x2 : Int32} (q : (am_mth d 176 [.ref 0, .int x2, .int 0, .int 2] (am_SH, I, J, Pf) (am_af sc d 151 16 [some (.ref 0), some (.int x1), some (.int x2)] [.int 2, .int 0, .int x2, .ref 0] [] (am_SH, I, J, Pf) k n true P))) : am_go sc d 151 (12, [some (.ref 0), some (.int x1), some (.int x2)], [], (am_SH, I, J, Pf), k, n) P := by
  refine am_s_aload_n rfl dc151_0.2.2.1 ?_
  refine am_s_iload_n rfl dc151_0.2.2.2 ?_
  refine am_s_iconst am_cc0 dc151_1.1.1.1 ?_
  refine am_s_iconst am_cc2 dc151_1.1.1.2 ?_
  exact am_s_virtual true dc151_1.1.2.1 rfl (by decide) rfl rfl rfl (q)
theorem v151_19 {sc : Option (Nat × (Nat → Int32))} {d k n : Nat} {P : am_O → Prop} {I : am_I} {J : am_J} {Pf : am_R} (hp : am_PF Pf) {x1 : Int32} {x2 : Int32} (q : (if x2 = 0 then ∃ r0_2x1 : Nat, (Pf 0 2 = some r0_2x1) ∧ (am_SH[r0_2x1]? = some (.inl 4)) ∧ (am_in x1 20 = true) ∧ (P (.inl (some (.int (I (r0_2x1 + 2) (Int32.toNatClampNeg x1)))), (am_SH, I, J, Pf), k, n)) else (if x2 = 1 then ∃ r0_2x2 : Nat, (Pf 0 2 = some r0_2x2) ∧ (am_SH[r0_2x2]? = some (.inl 4)) ∧ (am_in x1 20 = true) ∧ (if (I (r0_2x2 + 3) (Int32.toNatClampNeg x1)) = 0 then (P (.inl (some (.int 0)), (am_SH, I, J, Pf), k, n)) else (P (.inl (some (.int 1)), (am_SH, I, J, Pf), k, n))) else ∃ r0_2x3 : Nat, (Pf 0 2 = some r0_2x3) ∧ (am_SH[r0_2x3]? = some (.inl 4)) ∧ (am_in x1 20 = true) ∧ (P (.inl (some (.int (I (r0_2x3 + 4) (Int32.toNatClampNeg x1)))), (am_SH, I, J, Pf), k, n))))) : am_go sc d 151 (19, [some (.ref 0), some (.int x1), some (.int x2)], [], (am_SH, I, J, Pf), k, n) P := by
  refine am_s_iload_n rfl dc151_1.1.2.2 ?_
  by_cases c1 : x2 = 0
  · refine am_s_lsw (o := 28) dc151_1.2.1.1 (by decide) (by simp only [c1]; decide) rfl ?_
    refine am_s_aload_n rfl dc151_1.2.1.2 ?_
    obtain ⟨r0_2x1, qx1⟩ := (vi_t q c1)
    refine am_s_getR (r := r0_2x1) dc151_1.2.2.1 rfl rfl rfl (qx1.1) ?_
    refine am_s_getR (r := r0_2x1 + 2) dc151_1.2.2.2 rfl (qx1.2.1) rfl (am_r4_3 hp (qx1.2.1)) ?_
    refine am_s_iload_n rfl dc151_2.1.1.1 ?_
    refine am_x_iaload (x := I (r0_2x1 + 2) (Int32.toNatClampNeg x1)) dc151_2.1.1.2 (am_h4_3 (qx1.2.1)) (qx1.2.2.1) rfl rfl ?_
    exact am_s_ireturn dc151_2.1.2.1 rfl (qx1.2.2.2)
  by_cases c2 : x2 = 1
  · refine am_s_lsw (o := 38) dc151_1.2.1.1 (by decide) (by simp only [c2]; decide) rfl ?_
    refine am_s_aload_n rfl dc151_2.1.2.2 ?_
    obtain ⟨r0_2x2, qx2⟩ := (vi_t (vi_f q c1) c2)
    refine am_s_getR (r := r0_2x2) dc151_2.2.1.1 rfl rfl rfl (qx2.1) ?_
    refine am_s_getR (r := r0_2x2 + 3) dc151_2.2.1.2 rfl (qx2.2.1) rfl (am_r4_4 hp (qx2.2.1)) ?_
    refine am_s_iload_n rfl dc151_2.2.2.1 ?_
    refine am_x_baload (x := I (r0_2x2 + 3) (Int32.toNatClampNeg x1)) dc151_2.2.2.2 (am_h4_4 (qx2.2.1)) (qx2.2.2.1) rfl rfl ?_
    refine am_s_if_eq dc151_3.1.1.1 rfl (fun c3 => ?_) (fun c3 => ?_)
    · refine am_s_iconst am_cc0 dc151_3.1.2.2 ?_
      exact am_s_ireturn dc151_3.2.1.1 rfl ((vi_t qx2.2.2.2 c3))
    · refine am_s_iconst am_cc1 dc151_3.1.1.2 ?_
      refine am_s_goto rfl dc151_3.1.2.1 ?_
      exact am_s_ireturn dc151_3.2.1.1 rfl ((vi_f qx2.2.2.2 c3))
  refine am_s_lsw dc151_1.2.1.1 (by decide) (o := 56) (by have e1 := sw_n c1 (i := 0) (by decide); have e2 := sw_n c2 (i := 1) (by decide); show Op.lookupswitch.offset [(0, 28), (1, 38)] 56 _ = _; simp only [Op.lookupswitch.offset, if_neg (Ne.symm e1), if_neg (Ne.symm e2)]) rfl ?_
  refine am_s_aload_n rfl dc151_3.2.1.2 ?_
  obtain ⟨r0_2x3, qx3⟩ := (vi_f (vi_f q c1) c2)
  refine am_s_getR (r := r0_2x3) dc151_3.2.2.1 rfl rfl rfl (qx3.1) ?_
  refine am_s_getR (r := r0_2x3 + 4) dc151_3.2.2.2 rfl (qx3.2.1) rfl (am_r4_5 hp (qx3.2.1)) ?_
  refine am_s_iload_n rfl dc151_4.1 ?_
  refine am_x_iaload (x := I (r0_2x3 + 4) (Int32.toNatClampNeg x1)) dc151_4.2.1 (am_h4_5 (qx3.2.1)) (qx3.2.2.1) rfl rfl ?_
  exact am_s_ireturn dc151_4.2.2 rfl (qx3.2.2.2)
-- sort (II)I
theorem v152_0 {sc : Option (Nat × (Nat → Int32))} {d k n : Nat} {P : am_O → Prop} {I : am_I} {J : am_J} {Pf : am_R} (hp : am_PF Pf) {x1 : Int32} {x2 : Int32} {l3 : Option Value} (q : (am_mth d 177 [.ref 0, .int x1] (am_SH, I, J, Pf) (am_af sc d 152 2 [some (.ref 0), some (.int x1), some (.int x2), l3] [.int x1, .ref 0] [] (am_SH, I, J, Pf) k n true P))) : am_go sc d 152 (0, [some (.ref 0), some (.int x1), some (.int x2), l3], [], (am_SH, I, J, Pf), k, n) P := by
  refine am_s_aload_n rfl dc152_0.1.1.1 ?_
  refine am_s_iload_n rfl dc152_0.1.1.2 ?_
  exact am_s_virtual true dc152_0.1.2.1 rfl (by decide) rfl rfl rfl (q)
theorem v152_5 {sc : Option (Nat × (Nat → Int32))} {d k n : Nat} {P : am_O → Prop} {I : am_I} {J : am_J} {Pf : am_R} (hp : am_PF Pf) {x1 : Int32} {x2 : Int32} {l3 : Option Value} (q : (am_mth d 176 [.ref 0, .int x2, .int 0, .int 5] (am_SH, I, J, Pf) (am_af sc d 152 9 [some (.ref 0), some (.int x1), some (.int x2), l3] [.int 5, .int 0, .int x2, .ref 0] [] (am_SH, I, J, Pf) k n true P))) : am_go sc d 152 (5, [some (.ref 0), some (.int x1), some (.int x2), l3], [], (am_SH, I, J, Pf), k, n) P := by
  refine am_s_aload_n rfl dc152_0.1.2.2 ?_
  refine am_s_iload_n rfl dc152_0.2.1.1 ?_
  refine am_s_iconst am_cc0 dc152_0.2.1.2 ?_
  refine am_s_iconst am_cc5 dc152_0.2.2.1 ?_
  exact am_s_virtual true dc152_0.2.2.2 rfl (by decide) rfl rfl rfl (q)
theorem v152_12 {sc : Option (Nat × (Nat → Int32))} {d k n : Nat} {P : am_O → Prop} {I : am_I} {J : am_J} {Pf : am_R} (hp : am_PF Pf) {x1 : Int32} {x2 : Int32} {l3 : Option Value} (q : ∃ r0_2x1 : Nat, (Pf 0 2 = some r0_2x1) ∧ (am_SH[r0_2x1]? = some (.inl 4)) ∧ (if x2 = 0 then (am_in x1 8 = true) ∧ (P (.inl (some (.int (I (r0_2x1 + 15 + 4) (Int32.toNatClampNeg x1)))), (am_SH, I, J, Pf), k, n)) else (if x2 = 1 then (P (.inl (some (.int ((UInt32.toInt32 (Int32.toUInt32 (I (r0_2x1 + 15) 5) >>> (Int32.toUInt32 x1 &&& Int32.toUInt32 31))) &&& 1))), (am_SH, I, J, Pf), k, n)) else (if x2 = 2 then (am_in x1 8 = true) ∧ ∃ r77x2 : Nat, (Pf (r0_2x1 + 15 + 5) (Int32.toNatClampNeg x1) = some r77x2) ∧ (am_SH[r77x2]? = some (.inl 6)) ∧ (am_mth d 83 [.ref r77x2] (am_SH, I, J, Pf) (am_af sc d 152 78 [some (.ref 0), some (.int x1), some (.int x2), some (.ref (r0_2x1 + 15))] [.ref r77x2] [] (am_SH, I, J, Pf) k n false P)) else (if x2 = 3 then (am_in x1 8 = true) ∧ ∃ r87x3 : Nat, (Pf (r0_2x1 + 15 + 5) (Int32.toNatClampNeg x1) = some r87x3) ∧ (am_SH[r87x3]? = some (.inl 6)) ∧ (am_mth d 87 [.ref r87x3] (am_SH, I, J, Pf) (am_af sc d 152 88 [some (.ref 0), some (.int x1), some (.int x2), some (.ref (r0_2x1 + 15))] [.ref r87x3] [] (am_SH, I, J, Pf) k n false P)) else (if x2 = 4 then (am_in x1 8 = true) ∧ (P (.inl (some (.int (I (r0_2x1 + 15 + 1) (Int32.toNatClampNeg x1)))), (am_SH, I, J, Pf), k, n)) else (am_in x1 8 = true) ∧ (P (.inl (some (.int (I (r0_2x1 + 15 + 3) (Int32.toNatClampNeg x1)))), (am_SH, I, J, Pf), k, n)))))))) : am_go sc d 152 (12, [some (.ref 0), some (.int x1), some (.int x2), l3], [], (am_SH, I, J, Pf), k, n) P := by
  refine am_s_aload_n rfl dc152_1.1.1.1 ?_
  obtain ⟨r0_2x1, qx1⟩ := q
  refine am_s_getR (r := r0_2x1) dc152_1.1.1.2 rfl rfl rfl (qx1.1) ?_
  refine am_s_getR (r := r0_2x1 + 15) dc152_1.1.2.1 rfl (qx1.2.1) rfl (am_r4_20 hp (qx1.2.1)) ?_
  refine am_s_astore_n (ls' := [some (.ref 0), some (.int x1), some (.int x2), some (.ref (r0_2x1 + 15))]) rfl rfl dc152_1.1.2.2 ?_
  refine am_s_iload_n rfl dc152_1.2.1.1 ?_
  by_cases c1 : x2 = 0
  · refine am_s_tsw (v := 0) dc152_1.2.1.2 (by rw [c1]; decide) rfl rfl rfl ?_
    refine am_s_aload_n rfl dc152_1.2.2.1 ?_
    refine am_s_getR (r := r0_2x1 + 15 + 4) dc152_1.2.2.2 rfl (am_h4_20 (qx1.2.1)) rfl (am_r7_3 hp (am_h4_20 (qx1.2.1))) ?_
    refine am_s_iload_n rfl dc152_2.1.1.1 ?_
    refine am_x_iaload (x := I (r0_2x1 + 15 + 4) (Int32.toNatClampNeg x1)) dc152_2.1.1.2 (am_h7_3 (am_h4_20 (qx1.2.1))) ((vi_t qx1.2.2 c1).1) rfl rfl ?_
    exact am_s_ireturn dc152_2.1.2.1 rfl ((vi_t qx1.2.2 c1).2)
  by_cases c2 : x2 = 1
  · refine am_s_tsw (v := 1) dc152_1.2.1.2 (by rw [c2]; decide) rfl rfl rfl ?_
    refine am_s_aload_n rfl dc152_2.1.2.2 ?_
    refine am_x_getI (x := I (r0_2x1 + 15) 5) dc152_2.2.1.1 rfl (am_h4_20 (qx1.2.1)) (Or.inl rfl) rfl ?_
    refine am_s_iload_n rfl dc152_2.2.1.2 ?_
    refine am_s_iushr dc152_2.2.2.1 ?_
    refine am_s_iconst am_cc1 dc152_2.2.2.2 ?_
    refine am_s_iand dc152_3.1.1.1 ?_
    exact am_s_ireturn dc152_3.1.1.2 rfl ((vi_t (vi_f qx1.2.2 c1) c2))
  by_cases c3 : x2 = 2
  · refine am_s_tsw (v := 2) dc152_1.2.1.2 (by rw [c3]; decide) rfl rfl rfl ?_
    refine am_s_aload_n rfl dc152_3.1.2.1 ?_
    refine am_s_getR (r := r0_2x1 + 15 + 5) dc152_3.1.2.2 rfl (am_h4_20 (qx1.2.1)) rfl (am_r7_6 hp (am_h4_20 (qx1.2.1))) ?_
    refine am_s_iload_n rfl dc152_3.2.1.1 ?_
    obtain ⟨r77x2, qx2⟩ := (vi_t (vi_f (vi_f qx1.2.2 c1) c2) c3).2
    refine am_s_aaload (r := r77x2) dc152_3.2.1.2 (am_h7_6 (am_h4_20 (qx1.2.1))) rfl ((vi_t (vi_f (vi_f qx1.2.2 c1) c2) c3).1) (qx2.1) ?_
    exact am_s_virtual false dc152_3.2.2.1 rfl (by decide) rfl (qx2.2.1) rfl (qx2.2.2)
  by_cases c4 : x2 = 3
  · refine am_s_tsw (v := 3) dc152_1.2.1.2 (by rw [c4]; decide) rfl rfl rfl ?_
    refine am_s_aload_n rfl dc152_4.1.1.1 ?_
    refine am_s_getR (r := r0_2x1 + 15 + 5) dc152_4.1.1.2 rfl (am_h4_20 (qx1.2.1)) rfl (am_r7_6 hp (am_h4_20 (qx1.2.1))) ?_
    refine am_s_iload_n rfl dc152_4.1.2.1 ?_
    obtain ⟨r87x3, qx3⟩ := (vi_t (vi_f (vi_f (vi_f qx1.2.2 c1) c2) c3) c4).2
    refine am_s_aaload (r := r87x3) dc152_4.1.2.2 (am_h7_6 (am_h4_20 (qx1.2.1))) rfl ((vi_t (vi_f (vi_f (vi_f qx1.2.2 c1) c2) c3) c4).1) (qx3.1) ?_
    exact am_s_virtual false dc152_4.2.1.1 rfl (by decide) rfl (qx3.2.1) rfl (qx3.2.2)
  by_cases c5 : x2 = 4
  · refine am_s_tsw (v := 4) dc152_1.2.1.2 (by rw [c5]; decide) rfl rfl rfl ?_
    refine am_s_aload_n rfl dc152_4.2.2.1 ?_
    refine am_s_getR (r := r0_2x1 + 15 + 1) dc152_4.2.2.2 rfl (am_h4_20 (qx1.2.1)) rfl (am_r7_0 hp (am_h4_20 (qx1.2.1))) ?_
    refine am_s_iload_n rfl dc152_5.1.1.1 ?_
    refine am_x_iaload (x := I (r0_2x1 + 15 + 1) (Int32.toNatClampNeg x1)) dc152_5.1.1.2 (am_h7_0 (am_h4_20 (qx1.2.1))) ((vi_t (vi_f (vi_f (vi_f (vi_f qx1.2.2 c1) c2) c3) c4) c5).1) rfl rfl ?_
    exact am_s_ireturn dc152_5.1.2.1 rfl ((vi_t (vi_f (vi_f (vi_f (vi_f qx1.2.2 c1) c2) c3) c4) c5).2)
  refine am_s_tswd dc152_1.2.1.2 (by have e1 := sw_n c1 (i := 0) (by decide); have e2 := sw_n c2 (i := 1) (by decide); have e3 := sw_n c3 (i := 2) (by decide); have e4 := sw_n c4 (i := 3) (by decide); have e5 := sw_n c5 (i := 4) (by decide); simp only [Bool.or_eq_true, decide_eq_true_eq]; omega) rfl ?_
  refine am_s_aload_n rfl dc152_5.1.2.2 ?_
  refine am_s_getR (r := r0_2x1 + 15 + 3) dc152_5.2.1.1 rfl (am_h4_20 (qx1.2.1)) rfl (am_r7_2 hp (am_h4_20 (qx1.2.1))) ?_
  refine am_s_iload_n rfl dc152_5.2.1.2 ?_
  refine am_x_iaload (x := I (r0_2x1 + 15 + 3) (Int32.toNatClampNeg x1)) dc152_5.2.2.1 (am_h7_2 (am_h4_20 (qx1.2.1))) ((vi_f (vi_f (vi_f (vi_f (vi_f qx1.2.2 c1) c2) c3) c4) c5).1) rfl rfl ?_
  exact am_s_ireturn dc152_5.2.2.2 rfl ((vi_f (vi_f (vi_f (vi_f (vi_f qx1.2.2 c1) c2) c3) c4) c5).2)
theorem v152_81 {sc : Option (Nat × (Nat → Int32))} {d k n : Nat} {P : am_O → Prop} {I : am_I} {J : am_J} {Pf : am_R} (hp : am_PF Pf) {l0 : Option Value} {l1 : Option Value} {l2 : Option Value} {l3 : Option Value} {s0 : Int32} (q : (P (.inl (some (.int s0)), (am_SH, I, J, Pf), k, n))) : am_go sc d 152 (81, [l0, l1, l2, l3], [.int s0], (am_SH, I, J, Pf), k, n) P := by
  exact am_s_ireturn dc152_3.2.2.2 rfl (q)
theorem v152_91 {sc : Option (Nat × (Nat → Int32))} {d k n : Nat} {P : am_O → Prop} {I : am_I} {J : am_J} {Pf : am_R} (hp : am_PF Pf) {l0 : Option Value} {l1 : Option Value} {l2 : Option Value} {l3 : Option Value} {s0 : Int32} (q : (P (.inl (some (.int s0)), (am_SH, I, J, Pf), k, n))) : am_go sc d 152 (91, [l0, l1, l2, l3], [.int s0], (am_SH, I, J, Pf), k, n) P := by
  exact am_s_ireturn dc152_4.2.1.2 rfl (q)
-- begins (II)Z
theorem v153_0 {sc : Option (Nat × (Nat → Int32))} {d k n : Nat} {P : am_O → Prop} {I : am_I} {J : am_J} {Pf : am_R} (hp : am_PF Pf) {x1 : Int32} {x2 : Int32} (q : (am_mth d 177 [.ref 0, .int x1] (am_SH, I, J, Pf) (am_af sc d 153 2 [some (.ref 0), some (.int x1), some (.int x2)] [.int x1, .ref 0] [] (am_SH, I, J, Pf) k n true P))) : am_go sc d 153 (0, [some (.ref 0), some (.int x1), some (.int x2)], [], (am_SH, I, J, Pf), k, n) P := by
  refine am_s_aload_n rfl dc153_0.1.1.1 ?_
  refine am_s_iload_n rfl dc153_0.1.1.2 ?_
  exact am_s_virtual true dc153_0.1.2.1 rfl (by decide) rfl rfl rfl (q)
theorem v153_5 {sc : Option (Nat × (Nat → Int32))} {d k n : Nat} {P : am_O → Prop} {I : am_I} {J : am_J} {Pf : am_R} (hp : am_PF Pf) {x1 : Int32} {x2 : Int32} (q : (am_mth d 176 [.ref 0, .int x2, .int 32, .int 126] (am_SH, I, J, Pf) (am_af sc d 153 11 [some (.ref 0), some (.int x1), some (.int x2)] [.int 126, .int 32, .int x2, .ref 0] [] (am_SH, I, J, Pf) k n true P))) : am_go sc d 153 (5, [some (.ref 0), some (.int x1), some (.int x2)], [], (am_SH, I, J, Pf), k, n) P := by
  refine am_s_aload_n rfl dc153_0.1.2.2 ?_
  refine am_s_iload_n rfl dc153_0.2.1.1 ?_
  refine am_s_bipush am_cb32 dc153_0.2.1.2 ?_
  refine am_s_bipush am_cb126 dc153_0.2.2.1 ?_
  exact am_s_virtual true dc153_0.2.2.2 rfl (by decide) rfl rfl rfl (q)
theorem v153_14 {sc : Option (Nat × (Nat → Int32))} {d k n : Nat} {P : am_O → Prop} {I : am_I} {J : am_J} {Pf : am_R} (hp : am_PF Pf) {x1 : Int32} {x2 : Int32} (q : ∃ r0_2x1 : Nat, (Pf 0 2 = some r0_2x1) ∧ (am_SH[r0_2x1]? = some (.inl 4)) ∧ (am_in x1 8 = true) ∧ ∃ r25x2 : Nat, (Pf (r0_2x1 + 15 + 5) (Int32.toNatClampNeg x1) = some r25x2) ∧ (am_SH[r25x2]? = some (.inl 6)) ∧ (am_mth d 78 [.ref r25x2, .int x2] (am_SH, I, J, Pf) (am_af sc d 153 27 [some (.ref 0), some (.int x1), some (.int x2)] [.int x2, .ref r25x2] [] (am_SH, I, J, Pf) k n false P))) : am_go sc d 153 (14, [some (.ref 0), some (.int x1), some (.int x2)], [], (am_SH, I, J, Pf), k, n) P := by
  refine am_s_aload_n rfl dc153_1.1.1.1 ?_
  obtain ⟨r0_2x1, qx1⟩ := q
  refine am_s_getR (r := r0_2x1) dc153_1.1.1.2 rfl rfl rfl (qx1.1) ?_
  refine am_s_getR (r := r0_2x1 + 15) dc153_1.1.2.1 rfl (qx1.2.1) rfl (am_r4_20 hp (qx1.2.1)) ?_
  refine am_s_getR (r := r0_2x1 + 15 + 5) dc153_1.1.2.2 rfl (am_h4_20 (qx1.2.1)) rfl (am_r7_6 hp (am_h4_20 (qx1.2.1))) ?_
  refine am_s_iload_n rfl dc153_1.2.1.1 ?_
  obtain ⟨r25x2, qx2⟩ := qx1.2.2.2
  refine am_s_aaload (r := r25x2) dc153_1.2.1.2 (am_h7_6 (am_h4_20 (qx1.2.1))) rfl (qx1.2.2.1) (qx2.1) ?_
  refine am_s_iload_n rfl dc153_1.2.2.1 ?_
  exact am_s_virtual false dc153_1.2.2.2 rfl (by decide) rfl (qx2.2.1) rfl (qx2.2.2)
theorem v153_30 {sc : Option (Nat × (Nat → Int32))} {d k n : Nat} {P : am_O → Prop} {I : am_I} {J : am_J} {Pf : am_R} (hp : am_PF Pf) {l0 : Option Value} {l1 : Option Value} {l2 : Option Value} {s0 : Int32} (q : (s0 = 0 ∨ s0 = 1) ∧ (P (.inl (some (.int s0)), (am_SH, I, J, Pf), k, n))) : am_go sc d 153 (30, [l0, l1, l2], [.int s0], (am_SH, I, J, Pf), k, n) P := by
  exact am_s_zreturn dc153_2 rfl (q.1) (q.2)
-- sign (I)I
theorem v154_0 {sc : Option (Nat × (Nat → Int32))} {d k n : Nat} {P : am_O → Prop} {I : am_I} {J : am_J} {Pf : am_R} (hp : am_PF Pf) {x1 : Int32} (q : (am_mth d 175 [.ref 0, .int x1, .int (I 135 1)] (am_SH, I, J, Pf) (am_af sc d 154 9 [some (.ref 0), some (.int x1)] [.int (I 135 1), .int x1, .ref 0] [] (am_SH, I, J, Pf) k n true P))) : am_go sc d 154 (0, [some (.ref 0), some (.int x1)], [], (am_SH, I, J, Pf), k, n) P := by
  refine am_s_aload_n rfl dc154_0.1.1.1 ?_
  refine am_s_iload_n rfl dc154_0.1.1.2 ?_
  refine am_s_aload_n rfl dc154_0.1.2.1 ?_
  refine am_s_getR (r := 135) dc154_0.1.2.2 rfl rfl rfl (hp _ _ _ rfl) ?_
  refine am_x_getI (x := I 135 1) dc154_0.2.1.1 rfl rfl (Or.inl rfl) rfl ?_
  exact am_s_virtual true dc154_0.2.1.2 rfl (by decide) rfl rfl rfl (q)
theorem v154_12 {sc : Option (Nat × (Nat → Int32))} {d k n : Nat} {P : am_O → Prop} {I : am_I} {J : am_J} {Pf : am_R} (hp : am_PF Pf) {x1 : Int32} (q : (am_in x1 24 = true) ∧ (P (.inl (some (.int (I 136 (Int32.toNatClampNeg x1)))), (am_SH, I, J, Pf), k, n))) : am_go sc d 154 (12, [some (.ref 0), some (.int x1)], [], (am_SH, I, J, Pf), k, n) P := by
  refine am_s_aload_n rfl dc154_0.2.2.1 ?_
  refine am_s_getR (r := 135) dc154_0.2.2.2 rfl rfl rfl (hp _ _ _ rfl) ?_
  refine am_s_getR (r := 136) dc154_1.1.1 rfl rfl rfl (hp _ _ _ rfl) ?_
  refine am_s_iload_n rfl dc154_1.1.2 ?_
  refine am_x_iaload (x := I 136 (Int32.toNatClampNeg x1)) dc154_1.2.1 rfl (q.1) rfl rfl ?_
  exact am_s_ireturn dc154_1.2.2 rfl (q.2)
-- run (I)I
theorem v155_0 {sc : Option (Nat × (Nat → Int32))} {d k n : Nat} {P : am_O → Prop} {I : am_I} {J : am_J} {Pf : am_R} (hp : am_PF Pf) {x1 : Int32} (q : (am_mth d 175 [.ref 0, .int x1, .int ((I 135 1) + 1)] (am_SH, I, J, Pf) (am_af sc d 155 11 [some (.ref 0), some (.int x1)] [.int ((I 135 1) + 1), .int x1, .ref 0] [] (am_SH, I, J, Pf) k n true P))) : am_go sc d 155 (0, [some (.ref 0), some (.int x1)], [], (am_SH, I, J, Pf), k, n) P := by
  refine am_s_aload_n rfl dc155_0.1.1.1 ?_
  refine am_s_iload_n rfl dc155_0.1.1.2 ?_
  refine am_s_aload_n rfl dc155_0.1.2.1 ?_
  refine am_s_getR (r := 135) dc155_0.1.2.2 rfl rfl rfl (hp _ _ _ rfl) ?_
  refine am_x_getI (x := I 135 1) dc155_0.2.1.1 rfl rfl (Or.inl rfl) rfl ?_
  refine am_s_iconst am_cc1 dc155_0.2.1.2 ?_
  refine am_s_iadd dc155_0.2.2.1 ?_
  exact am_s_virtual true dc155_0.2.2.2 rfl (by decide) rfl rfl rfl (q)
theorem v155_14 {sc : Option (Nat × (Nat → Int32))} {d k n : Nat} {P : am_O → Prop} {I : am_I} {J : am_J} {Pf : am_R} (hp : am_PF Pf) {x1 : Int32} (q : (am_mth d 180 [.ref 0] (am_SH, I, J, Pf) (am_af sc d 155 15 [some (.ref 0), some (.int x1)] [.ref 0] [] (am_SH, I, J, Pf) k n true P))) : am_go sc d 155 (14, [some (.ref 0), some (.int x1)], [], (am_SH, I, J, Pf), k, n) P := by
  refine am_s_aload_n rfl dc155_1.1.1.1 ?_
  exact am_s_virtual true dc155_1.1.1.2 rfl (by decide) rfl rfl rfl (q)
theorem v155_18 {sc : Option (Nat × (Nat → Int32))} {d k n : Nat} {P : am_O → Prop} {I : am_I} {J : am_J} {Pf : am_R} (hp : am_PF Pf) {x1 : Int32} (q : (am_in x1 25 = true) ∧ (P (.inl (some (.int (I 137 (Int32.toNatClampNeg x1)))), (am_SH, I, J, Pf), k, n))) : am_go sc d 155 (18, [some (.ref 0), some (.int x1)], [], (am_SH, I, J, Pf), k, n) P := by
  refine am_s_aload_n rfl dc155_1.1.2.1 ?_
  refine am_s_getR (r := 135) dc155_1.1.2.2 rfl rfl rfl (hp _ _ _ rfl) ?_
  refine am_s_getR (r := 137) dc155_1.2.1.1 rfl rfl rfl (hp _ _ _ rfl) ?_
  refine am_s_iload_n rfl dc155_1.2.1.2 ?_
  refine am_x_iaload (x := I 137 (Int32.toNatClampNeg x1)) dc155_1.2.2.1 rfl (q.1) rfl rfl ?_
  exact am_s_ireturn dc155_1.2.2.2 rfl (q.2)
-- is (III)Z
theorem v156_0 {sc : Option (Nat × (Nat → Int32))} {d k n : Nat} {P : am_O → Prop} {I : am_I} {J : am_J} {Pf : am_R} (hp : am_PF Pf) {x1 : Int32} {x2 : Int32} {x3 : Int32} (q : (am_mth d 178 [.ref 0, .int x1, .int x2, .int x3] (am_SH, I, J, Pf) (am_af sc d 156 4 [some (.ref 0), some (.int x1), some (.int x2), some (.int x3)] [.int x3, .int x2, .int x1, .ref 0] [] (am_SH, I, J, Pf) k n true P))) : am_go sc d 156 (0, [some (.ref 0), some (.int x1), some (.int x2), some (.int x3)], [], (am_SH, I, J, Pf), k, n) P := by
  refine am_s_aload_n rfl dc156_0.1.1.1 ?_
  refine am_s_iload_n rfl dc156_0.1.1.2 ?_
  refine am_s_iload_n rfl dc156_0.1.2.1 ?_
  refine am_s_iload_n rfl dc156_0.1.2.2 ?_
  exact am_s_virtual true dc156_0.2.1.1 rfl (by decide) rfl rfl rfl (q)
theorem v156_7 {sc : Option (Nat × (Nat → Int32))} {d k n : Nat} {P : am_O → Prop} {I : am_I} {J : am_J} {Pf : am_R} (hp : am_PF Pf) {x1 : Int32} {x2 : Int32} {x3 : Int32} (q : (am_mth d 180 [.ref 0] (am_SH, I, J, Pf) (am_af sc d 156 8 [some (.ref 0), some (.int x1), some (.int x2), some (.int x3)] [.ref 0] [] (am_SH, I, J, Pf) k n true P))) : am_go sc d 156 (7, [some (.ref 0), some (.int x1), some (.int x2), some (.int x3)], [], (am_SH, I, J, Pf), k, n) P := by
  refine am_s_aload_n rfl dc156_0.2.1.2 ?_
  exact am_s_virtual true dc156_0.2.2.1 rfl (by decide) rfl rfl rfl (q)
theorem v156_11 {sc : Option (Nat × (Nat → Int32))} {d k n : Nat} {P : am_O → Prop} {I : am_I} {J : am_J} {Pf : am_R} (hp : am_PF Pf) {x1 : Int32} {x2 : Int32} {x3 : Int32} (q : (am_in ((x1 * 25) + x2) 200 = true) ∧ (if ((UInt32.toInt32 (Int32.toUInt32 (I 138 (Int32.toNatClampNeg ((x1 * 25) + x2))) >>> (Int32.toUInt32 x3 &&& Int32.toUInt32 31))) &&& 1) = 0 then (P (.inl (some (.int 0)), (am_SH, I, J, Pf), k, n)) else (P (.inl (some (.int 1)), (am_SH, I, J, Pf), k, n)))) : am_go sc (d + 1) 156 (11, [some (.ref 0), some (.int x1), some (.int x2), some (.int x3)], [], (am_SH, I, J, Pf), k, n) P := by
  refine am_s_aload_n rfl dc156_0.2.2.2 ?_
  refine am_s_getR (r := 135) dc156_1.1.1 rfl rfl rfl (hp _ _ _ rfl) ?_
  refine am_s_iload_n rfl dc156_1.1.2.1 ?_
  refine am_s_iload_n rfl dc156_1.1.2.2 ?_
  refine am_s_iload_n rfl dc156_1.2.1 ?_
  refine am_s_virtual false dc156_1.2.2.1 rfl (by decide) rfl rfl rfl (am_mth_of rfl rfl ?_)
  refine am_s_aload_n rfl dc118_0.1.1.1 ?_
  refine am_s_getR (r := 138) dc118_0.1.1.2 rfl rfl rfl (hp _ _ _ rfl) ?_
  refine am_s_iload_n rfl dc118_0.1.2.1 ?_
  refine am_s_bipush am_cb25 dc118_0.1.2.2 ?_
  refine am_s_imul dc118_0.2.1.1 ?_
  refine am_s_iload_n rfl dc118_0.2.1.2 ?_
  refine am_s_iadd dc118_0.2.2.1 ?_
  refine am_x_iaload (x := I 138 (Int32.toNatClampNeg ((x1 * 25) + x2))) dc118_0.2.2.2 rfl (q.1) rfl rfl ?_
  refine am_s_iload_n rfl dc118_1.1.1.1 ?_
  refine am_s_iushr dc118_1.1.1.2 ?_
  refine am_s_iconst am_cc1 dc118_1.1.2.1 ?_
  refine am_s_iand dc118_1.1.2.2 ?_
  refine am_s_if_eq dc118_1.2.1.1 rfl (fun c1 => ?_) (fun c1 => ?_)
  · refine am_s_iconst am_cc0 dc118_1.2.2.2 ?_
    refine am_s_zreturn dc118_2 rfl (by decide) (am_bkI ?_)
    exact am_s_zreturn dc156_1.2.2.2 rfl (by decide) ((vi_t q.2 c1))
  · refine am_s_iconst am_cc1 dc118_1.2.1.2 ?_
    refine am_s_goto rfl dc118_1.2.2.1 ?_
    refine am_s_zreturn dc118_2 rfl (by decide) (am_bkI ?_)
    exact am_s_zreturn dc156_1.2.2.2 rfl (by decide) ((vi_f q.2 c1))
-- ends (II)I
theorem v157_0 {sc : Option (Nat × (Nat → Int32))} {d k n : Nat} {P : am_O → Prop} {I : am_I} {J : am_J} {Pf : am_R} (hp : am_PF Pf) {x1 : Int32} {x2 : Int32} (q : (am_mth d 177 [.ref 0, .int x1] (am_SH, I, J, Pf) (am_af sc d 157 2 [some (.ref 0), some (.int x1), some (.int x2)] [.int x1, .ref 0] [] (am_SH, I, J, Pf) k n true P))) : am_go sc d 157 (0, [some (.ref 0), some (.int x1), some (.int x2)], [], (am_SH, I, J, Pf), k, n) P := by
  refine am_s_aload_n rfl dc157_0.1.1.1 ?_
  refine am_s_iload_n rfl dc157_0.1.1.2 ?_
  exact am_s_virtual true dc157_0.1.2.1 rfl (by decide) rfl rfl rfl (q)
theorem v157_5 {sc : Option (Nat × (Nat → Int32))} {d k n : Nat} {P : am_O → Prop} {I : am_I} {J : am_J} {Pf : am_R} (hp : am_PF Pf) {x1 : Int32} {x2 : Int32} (q : (am_mth d 176 [.ref 0, .int x2, .int 0, .int (I 135 1)] (am_SH, I, J, Pf) (am_af sc d 157 15 [some (.ref 0), some (.int x1), some (.int x2)] [.int (I 135 1), .int 0, .int x2, .ref 0] [] (am_SH, I, J, Pf) k n true P))) : am_go sc d 157 (5, [some (.ref 0), some (.int x1), some (.int x2)], [], (am_SH, I, J, Pf), k, n) P := by
  refine am_s_aload_n rfl dc157_0.1.2.2 ?_
  refine am_s_iload_n rfl dc157_0.2.1.1 ?_
  refine am_s_iconst am_cc0 dc157_0.2.1.2 ?_
  refine am_s_aload_n rfl dc157_0.2.2.1 ?_
  refine am_s_getR (r := 135) dc157_0.2.2.2 rfl rfl rfl (hp _ _ _ rfl) ?_
  refine am_x_getI (x := I 135 1) dc157_1.1.1.1 rfl rfl (Or.inl rfl) rfl ?_
  exact am_s_virtual true dc157_1.1.1.2 rfl (by decide) rfl rfl rfl (q)
theorem v157_18 {sc : Option (Nat × (Nat → Int32))} {d k n : Nat} {P : am_O → Prop} {I : am_I} {J : am_J} {Pf : am_R} (hp : am_PF Pf) {x1 : Int32} {x2 : Int32} (q : (am_mth d 180 [.ref 0] (am_SH, I, J, Pf) (am_af sc d 157 19 [some (.ref 0), some (.int x1), some (.int x2)] [.ref 0] [] (am_SH, I, J, Pf) k n true P))) : am_go sc d 157 (18, [some (.ref 0), some (.int x1), some (.int x2)], [], (am_SH, I, J, Pf), k, n) P := by
  refine am_s_aload_n rfl dc157_1.1.2.1 ?_
  exact am_s_virtual true dc157_1.1.2.2 rfl (by decide) rfl rfl rfl (q)
theorem v157_22 {sc : Option (Nat × (Nat → Int32))} {d k n : Nat} {P : am_O → Prop} {I : am_I} {J : am_J} {Pf : am_R} (hp : am_PF Pf) {x1 : Int32} {x2 : Int32} (q : (am_in ((x1 * 25) + x2) 200 = true) ∧ (P (.inl (some (.int (I 138 (Int32.toNatClampNeg ((x1 * 25) + x2))))), (am_SH, I, J, Pf), k, n))) : am_go sc d 157 (22, [some (.ref 0), some (.int x1), some (.int x2)], [], (am_SH, I, J, Pf), k, n) P := by
  refine am_s_aload_n rfl dc157_1.2.1.1 ?_
  refine am_s_getR (r := 135) dc157_1.2.1.2 rfl rfl rfl (hp _ _ _ rfl) ?_
  refine am_s_getR (r := 138) dc157_1.2.2.1 rfl rfl rfl (hp _ _ _ rfl) ?_
  refine am_s_iload_n rfl dc157_1.2.2.2 ?_
  refine am_s_bipush am_cb25 dc157_2.1.1 ?_
  refine am_s_imul dc157_2.1.2.1 ?_
  refine am_s_iload_n rfl dc157_2.1.2.2 ?_
  refine am_s_iadd dc157_2.2.1 ?_
  refine am_x_iaload (x := I 138 (Int32.toNatClampNeg ((x1 * 25) + x2))) dc157_2.2.2.1 rfl (q.1) rfl rfl ?_
  exact am_s_ireturn dc157_2.2.2.2 rfl (q.2)
-- ways (III)I
theorem v158_0 {sc : Option (Nat × (Nat → Int32))} {d k n : Nat} {P : am_O → Prop} {I : am_I} {J : am_J} {Pf : am_R} (hp : am_PF Pf) {x1 : Int32} {x2 : Int32} {x3 : Int32} (q : (am_mth d 178 [.ref 0, .int x1, .int x2, .int x3] (am_SH, I, J, Pf) (am_af sc d 158 4 [some (.ref 0), some (.int x1), some (.int x2), some (.int x3)] [.int x3, .int x2, .int x1, .ref 0] [] (am_SH, I, J, Pf) k n true P))) : am_go sc d 158 (0, [some (.ref 0), some (.int x1), some (.int x2), some (.int x3)], [], (am_SH, I, J, Pf), k, n) P := by
  refine am_s_aload_n rfl dc158_0.1.1.1 ?_
  refine am_s_iload_n rfl dc158_0.1.1.2 ?_
  refine am_s_iload_n rfl dc158_0.1.2.1 ?_
  refine am_s_iload_n rfl dc158_0.1.2.2 ?_
  exact am_s_virtual true dc158_0.2.1.1 rfl (by decide) rfl rfl rfl (q)
theorem v158_7 {sc : Option (Nat × (Nat → Int32))} {d k n : Nat} {P : am_O → Prop} {I : am_I} {J : am_J} {Pf : am_R} (hp : am_PF Pf) {x1 : Int32} {x2 : Int32} {x3 : Int32} (q : (am_mth d 180 [.ref 0] (am_SH, I, J, Pf) (am_af sc d 158 8 [some (.ref 0), some (.int x1), some (.int x2), some (.int x3)] [.ref 0] [] (am_SH, I, J, Pf) k n true P))) : am_go sc d 158 (7, [some (.ref 0), some (.int x1), some (.int x2), some (.int x3)], [], (am_SH, I, J, Pf), k, n) P := by
  refine am_s_aload_n rfl dc158_0.2.1.2 ?_
  exact am_s_virtual true dc158_0.2.2.1 rfl (by decide) rfl rfl rfl (q)
theorem v158_11 {sc : Option (Nat × (Nat → Int32))} {d k n : Nat} {P : am_O → Prop} {I : am_I} {J : am_J} {Pf : am_R} (hp : am_PF Pf) {x1 : Int32} {x2 : Int32} {x3 : Int32} (q : (am_mth d 124 [.ref 145, .int x1, .int x2, .int x3] (am_SH, I, J, Pf) (am_af sc d 158 18 [some (.ref 0), some (.int x1), some (.int x2), some (.int x3)] [.int x3, .int x2, .int x1, .ref 145] [] (am_SH, I, J, Pf) k n false P))) : am_go sc d 158 (11, [some (.ref 0), some (.int x1), some (.int x2), some (.int x3)], [], (am_SH, I, J, Pf), k, n) P := by
  refine am_s_aload_n rfl dc158_0.2.2.2 ?_
  refine am_s_getR (r := 145) dc158_1.1.1 rfl rfl rfl (hp _ _ _ rfl) ?_
  refine am_s_iload_n rfl dc158_1.1.2.1 ?_
  refine am_s_iload_n rfl dc158_1.1.2.2 ?_
  refine am_s_iload_n rfl dc158_1.2.1 ?_
  exact am_s_virtual false dc158_1.2.2.1 rfl (by decide) rfl rfl rfl (q)
theorem v158_21 {sc : Option (Nat × (Nat → Int32))} {d k n : Nat} {P : am_O → Prop} {I : am_I} {J : am_J} {Pf : am_R} (hp : am_PF Pf) {l0 : Option Value} {l1 : Option Value} {l2 : Option Value} {l3 : Option Value} {s0 : Int32} (q : (P (.inl (some (.int s0)), (am_SH, I, J, Pf), k, n))) : am_go sc d 158 (21, [l0, l1, l2, l3], [.int s0], (am_SH, I, J, Pf), k, n) P := by
  exact am_s_ireturn dc158_1.2.2.2 rfl (q)
-- height (III)I
theorem v159_0 {sc : Option (Nat × (Nat → Int32))} {d k n : Nat} {P : am_O → Prop} {I : am_I} {J : am_J} {Pf : am_R} (hp : am_PF Pf) {x1 : Int32} {x2 : Int32} {x3 : Int32} (q : (am_mth d 178 [.ref 0, .int x1, .int x2, .int x3] (am_SH, I, J, Pf) (am_af sc d 159 4 [some (.ref 0), some (.int x1), some (.int x2), some (.int x3)] [.int x3, .int x2, .int x1, .ref 0] [] (am_SH, I, J, Pf) k n true P))) : am_go sc d 159 (0, [some (.ref 0), some (.int x1), some (.int x2), some (.int x3)], [], (am_SH, I, J, Pf), k, n) P := by
  refine am_s_aload_n rfl dc159_0.1.1.1 ?_
  refine am_s_iload_n rfl dc159_0.1.1.2 ?_
  refine am_s_iload_n rfl dc159_0.1.2.1 ?_
  refine am_s_iload_n rfl dc159_0.1.2.2 ?_
  exact am_s_virtual true dc159_0.2.1.1 rfl (by decide) rfl rfl rfl (q)
theorem v159_7 {sc : Option (Nat × (Nat → Int32))} {d k n : Nat} {P : am_O → Prop} {I : am_I} {J : am_J} {Pf : am_R} (hp : am_PF Pf) {x1 : Int32} {x2 : Int32} {x3 : Int32} (q : (am_mth d 180 [.ref 0] (am_SH, I, J, Pf) (am_af sc d 159 8 [some (.ref 0), some (.int x1), some (.int x2), some (.int x3)] [.ref 0] [] (am_SH, I, J, Pf) k n true P))) : am_go sc d 159 (7, [some (.ref 0), some (.int x1), some (.int x2), some (.int x3)], [], (am_SH, I, J, Pf), k, n) P := by
  refine am_s_aload_n rfl dc159_0.2.1.2 ?_
  exact am_s_virtual true dc159_0.2.2.1 rfl (by decide) rfl rfl rfl (q)
theorem v159_11 {sc : Option (Nat × (Nat → Int32))} {d k n : Nat} {P : am_O → Prop} {I : am_I} {J : am_J} {Pf : am_R} (hp : am_PF Pf) {x1 : Int32} {x2 : Int32} {x3 : Int32} (q : (am_mth d 126 [.ref 145, .int x1, .int x2, .int x3] (am_SH, I, J, Pf) (am_af sc d 159 18 [some (.ref 0), some (.int x1), some (.int x2), some (.int x3)] [.int x3, .int x2, .int x1, .ref 145] [] (am_SH, I, J, Pf) k n false P))) : am_go sc d 159 (11, [some (.ref 0), some (.int x1), some (.int x2), some (.int x3)], [], (am_SH, I, J, Pf), k, n) P := by
  refine am_s_aload_n rfl dc159_0.2.2.2 ?_
  refine am_s_getR (r := 145) dc159_1.1.1 rfl rfl rfl (hp _ _ _ rfl) ?_
  refine am_s_iload_n rfl dc159_1.1.2.1 ?_
  refine am_s_iload_n rfl dc159_1.1.2.2 ?_
  refine am_s_iload_n rfl dc159_1.2.1 ?_
  exact am_s_virtual false dc159_1.2.2.1 rfl (by decide) rfl rfl rfl (q)
theorem v159_21 {sc : Option (Nat × (Nat → Int32))} {d k n : Nat} {P : am_O → Prop} {I : am_I} {J : am_J} {Pf : am_R} (hp : am_PF Pf) {l0 : Option Value} {l1 : Option Value} {l2 : Option Value} {l3 : Option Value} {s0 : Int32} (q : (P (.inl (some (.int s0)), (am_SH, I, J, Pf), k, n))) : am_go sc d 159 (21, [l0, l1, l2, l3], [.int s0], (am_SH, I, J, Pf), k, n) P := by
  exact am_s_ireturn dc159_1.2.2.2 rfl (q)
-- nodes (III)I
theorem v160_0 {sc : Option (Nat × (Nat → Int32))} {d k n : Nat} {P : am_O → Prop} {I : am_I} {J : am_J} {Pf : am_R} (hp : am_PF Pf) {x1 : Int32} {x2 : Int32} {x3 : Int32} (q : (am_mth d 178 [.ref 0, .int x1, .int x2, .int x3] (am_SH, I, J, Pf) (am_af sc d 160 4 [some (.ref 0), some (.int x1), some (.int x2), some (.int x3)] [.int x3, .int x2, .int x1, .ref 0] [] (am_SH, I, J, Pf) k n true P))) : am_go sc d 160 (0, [some (.ref 0), some (.int x1), some (.int x2), some (.int x3)], [], (am_SH, I, J, Pf), k, n) P := by
  refine am_s_aload_n rfl dc160_0.1.1.1 ?_
  refine am_s_iload_n rfl dc160_0.1.1.2 ?_
  refine am_s_iload_n rfl dc160_0.1.2.1 ?_
  refine am_s_iload_n rfl dc160_0.1.2.2 ?_
  exact am_s_virtual true dc160_0.2.1.1 rfl (by decide) rfl rfl rfl (q)
theorem v160_7 {sc : Option (Nat × (Nat → Int32))} {d k n : Nat} {P : am_O → Prop} {I : am_I} {J : am_J} {Pf : am_R} (hp : am_PF Pf) {x1 : Int32} {x2 : Int32} {x3 : Int32} (q : (am_mth d 180 [.ref 0] (am_SH, I, J, Pf) (am_af sc d 160 8 [some (.ref 0), some (.int x1), some (.int x2), some (.int x3)] [.ref 0] [] (am_SH, I, J, Pf) k n true P))) : am_go sc d 160 (7, [some (.ref 0), some (.int x1), some (.int x2), some (.int x3)], [], (am_SH, I, J, Pf), k, n) P := by
  refine am_s_aload_n rfl dc160_0.2.1.2 ?_
  exact am_s_virtual true dc160_0.2.2.1 rfl (by decide) rfl rfl rfl (q)
theorem v160_11 {sc : Option (Nat × (Nat → Int32))} {d k n : Nat} {P : am_O → Prop} {I : am_I} {J : am_J} {Pf : am_R} (hp : am_PF Pf) {x1 : Int32} {x2 : Int32} {x3 : Int32} (q : (am_mth d 130 [.ref 145, .int x1, .int x2, .int x3] (am_SH, I, J, Pf) (am_af sc d 160 18 [some (.ref 0), some (.int x1), some (.int x2), some (.int x3)] [.int x3, .int x2, .int x1, .ref 145] [] (am_SH, I, J, Pf) k n false P))) : am_go sc d 160 (11, [some (.ref 0), some (.int x1), some (.int x2), some (.int x3)], [], (am_SH, I, J, Pf), k, n) P := by
  refine am_s_aload_n rfl dc160_0.2.2.2 ?_
  refine am_s_getR (r := 145) dc160_1.1.1 rfl rfl rfl (hp _ _ _ rfl) ?_
  refine am_s_iload_n rfl dc160_1.1.2.1 ?_
  refine am_s_iload_n rfl dc160_1.1.2.2 ?_
  refine am_s_iload_n rfl dc160_1.2.1 ?_
  exact am_s_virtual false dc160_1.2.2.1 rfl (by decide) rfl rfl rfl (q)
theorem v160_21 {sc : Option (Nat × (Nat → Int32))} {d k n : Nat} {P : am_O → Prop} {I : am_I} {J : am_J} {Pf : am_R} (hp : am_PF Pf) {l0 : Option Value} {l1 : Option Value} {l2 : Option Value} {l3 : Option Value} {s0 : Int32} (q : (P (.inl (some (.int s0)), (am_SH, I, J, Pf), k, n))) : am_go sc d 160 (21, [l0, l1, l2, l3], [.int s0], (am_SH, I, J, Pf), k, n) P := by
  exact am_s_ireturn dc160_1.2.2.2 rfl (q)
-- node (III)I
theorem v161_0 {sc : Option (Nat × (Nat → Int32))} {d k n : Nat} {P : am_O → Prop} {I : am_I} {J : am_J} {Pf : am_R} (hp : am_PF Pf) {x1 : Int32} {x2 : Int32} {x3 : Int32} (q : (am_mth d 177 [.ref 0, .int x1] (am_SH, I, J, Pf) (am_af sc d 161 2 [some (.ref 0), some (.int x1), some (.int x2), some (.int x3)] [.int x1, .ref 0] [] (am_SH, I, J, Pf) k n true P))) : am_go sc d 161 (0, [some (.ref 0), some (.int x1), some (.int x2), some (.int x3)], [], (am_SH, I, J, Pf), k, n) P := by
  refine am_s_aload_n rfl dc161_0.1.1.1 ?_
  refine am_s_iload_n rfl dc161_0.1.1.2 ?_
  exact am_s_virtual true dc161_0.1.2.1 rfl (by decide) rfl rfl rfl (q)
theorem v161_5 {sc : Option (Nat × (Nat → Int32))} {d k n : Nat} {P : am_O → Prop} {I : am_I} {J : am_J} {Pf : am_R} (hp : am_PF Pf) {x1 : Int32} {x2 : Int32} {x3 : Int32} (q : (am_mth d 176 [.ref 0, .int x2, .int 0, .int 2147483647] (am_SH, I, J, Pf) (am_af sc d 161 11 [some (.ref 0), some (.int x1), some (.int x2), some (.int x3)] [.int 2147483647, .int 0, .int x2, .ref 0] [] (am_SH, I, J, Pf) k n true P))) : am_go sc d 161 (5, [some (.ref 0), some (.int x1), some (.int x2), some (.int x3)], [], (am_SH, I, J, Pf), k, n) P := by
  refine am_s_aload_n rfl dc161_0.1.2.2 ?_
  refine am_s_iload_n rfl dc161_0.2.1.1 ?_
  refine am_s_iconst am_cc0 dc161_0.2.1.2 ?_
  refine am_s_ldcw (x := 2147483647) dc161_0.2.2.1 rfl rfl rfl ?_
  exact am_s_virtual true dc161_0.2.2.2 rfl (by decide) rfl rfl rfl (q)
theorem v161_14 {sc : Option (Nat × (Nat → Int32))} {d k n : Nat} {P : am_O → Prop} {I : am_I} {J : am_J} {Pf : am_R} (hp : am_PF Pf) {x1 : Int32} {x2 : Int32} {x3 : Int32} (q : (am_mth d 176 [.ref 0, .int x3, .int 0, .int 5] (am_SH, I, J, Pf) (am_af sc d 161 18 [some (.ref 0), some (.int x1), some (.int x2), some (.int x3)] [.int 5, .int 0, .int x3, .ref 0] [] (am_SH, I, J, Pf) k n true P))) : am_go sc d 161 (14, [some (.ref 0), some (.int x1), some (.int x2), some (.int x3)], [], (am_SH, I, J, Pf), k, n) P := by
  refine am_s_aload_n rfl dc161_1.1.1.1 ?_
  refine am_s_iload_n rfl dc161_1.1.1.2 ?_
  refine am_s_iconst am_cc0 dc161_1.1.2.1 ?_
  refine am_s_iconst am_cc5 dc161_1.1.2.2 ?_
  exact am_s_virtual true dc161_1.2.1.1 rfl (by decide) rfl rfl rfl (q)
theorem v161_21 {sc : Option (Nat × (Nat → Int32))} {d k n : Nat} {P : am_O → Prop} {I : am_I} {J : am_J} {Pf : am_R} (hp : am_PF Pf) {x1 : Int32} {x2 : Int32} {x3 : Int32} (q : (am_mth d 180 [.ref 0] (am_SH, I, J, Pf) (am_af sc d 161 22 [some (.ref 0), some (.int x1), some (.int x2), some (.int x3)] [.ref 0] [] (am_SH, I, J, Pf) k n true P))) : am_go sc d 161 (21, [some (.ref 0), some (.int x1), some (.int x2), some (.int x3)], [], (am_SH, I, J, Pf), k, n) P := by
  refine am_s_aload_n rfl dc161_1.2.1.2 ?_
  exact am_s_virtual true dc161_1.2.2.1 rfl (by decide) rfl rfl rfl (q)
theorem v161_25 {sc : Option (Nat × (Nat → Int32))} {d k n : Nat} {P : am_O → Prop} {I : am_I} {J : am_J} {Pf : am_R} (hp : am_PF Pf) {x1 : Int32} {x2 : Int32} {x3 : Int32} (q : (am_mth d 130 [.ref 145, .int x1, .int 0, .int (I 135 1)] (am_SH, I, J, Pf) (am_af sc d 161 39 [some (.ref 0), some (.int x1), some (.int x2), some (.int x3)] [.int (I 135 1), .int 0, .int x1, .ref 145, .int x2] [.int x2] (am_SH, I, J, Pf) k n false P))) : am_go sc d 161 (25, [some (.ref 0), some (.int x1), some (.int x2), some (.int x3)], [], (am_SH, I, J, Pf), k, n) P := by
  refine am_s_iload_n rfl dc161_1.2.2.2 ?_
  refine am_s_aload_n rfl dc161_2.1.1.1 ?_
  refine am_s_getR (r := 145) dc161_2.1.1.2 rfl rfl rfl (hp _ _ _ rfl) ?_
  refine am_s_iload_n rfl dc161_2.1.2.1 ?_
  refine am_s_iconst am_cc0 dc161_2.1.2.2 ?_
  refine am_s_aload_n rfl dc161_2.2.1.1 ?_
  refine am_s_getR (r := 135) dc161_2.2.1.2 rfl rfl rfl (hp _ _ _ rfl) ?_
  refine am_x_getI (x := I 135 1) dc161_2.2.2.1 rfl rfl (Or.inl rfl) rfl ?_
  exact am_s_virtual false dc161_2.2.2.2 rfl (by decide) rfl rfl rfl (q)
theorem v161_42 {sc : Option (Nat × (Nat → Int32))} {d k n : Nat} {P : am_O → Prop} {I : am_I} {J : am_J} {Pf : am_R} (hp : am_PF Pf) {l1 : Option Value} {x2 : Int32} {x3 : Int32} {s0 : Int32} {s1 : Int32} (q : (if s0 < s1 then (am_mth d 137 [.ref 145, .int x2, .int x3] (am_SH, I, J, Pf) (am_af sc d 161 53 [some (.ref 0), l1, some (.int x2), some (.int x3)] [.int x3, .int x2, .ref 145] [] (am_SH, I, J, Pf) k n false P)) else (P (.inl (some (.int (-1))), (am_SH, I, J, Pf), k, n)))) : am_go sc d 161 (42, [some (.ref 0), l1, some (.int x2), some (.int x3)], [.int s1, .int s0], (am_SH, I, J, Pf), k, n) P := by
  refine am_s_ic_lt dc161_3.1.1.1 rfl (fun c1 => ?_) (fun c1 => ?_)
  · refine am_s_aload_n rfl dc161_3.1.2.2 ?_
    refine am_s_getR (r := 145) dc161_3.2.1.1 rfl rfl rfl (hp _ _ _ rfl) ?_
    refine am_s_iload_n rfl dc161_3.2.1.2 ?_
    refine am_s_iload_n rfl dc161_3.2.2.1 ?_
    exact am_s_virtual false dc161_3.2.2.2 rfl (by decide) rfl rfl rfl ((vi_t q c1))
  · refine am_s_iconst am_ccm1 dc161_3.1.1.2 ?_
    exact am_s_ireturn dc161_3.1.2.1 rfl ((vi_f q c1))
theorem v161_56 {sc : Option (Nat × (Nat → Int32))} {d k n : Nat} {P : am_O → Prop} {I : am_I} {J : am_J} {Pf : am_R} (hp : am_PF Pf) {l0 : Option Value} {l1 : Option Value} {l2 : Option Value} {l3 : Option Value} {s0 : Int32} (q : (P (.inl (some (.int s0)), (am_SH, I, J, Pf), k, n))) : am_go sc d 161 (56, [l0, l1, l2, l3], [.int s0], (am_SH, I, J, Pf), k, n) P := by
  exact am_s_ireturn dc161_4 rfl (q)
-- worth (I)I
theorem v162_0 {sc : Option (Nat × (Nat → Int32))} {d k n : Nat} {P : am_O → Prop} {I : am_I} {J : am_J} {Pf : am_R} (hp : am_PF Pf) {x1 : Int32} (q : (am_mth d 177 [.ref 0, .int x1] (am_SH, I, J, Pf) (am_af sc d 162 2 [some (.ref 0), some (.int x1)] [.int x1, .ref 0] [] (am_SH, I, J, Pf) k n true P))) : am_go sc d 162 (0, [some (.ref 0), some (.int x1)], [], (am_SH, I, J, Pf), k, n) P := by
  refine am_s_aload_n rfl dc162_0.1.1.1 ?_
  refine am_s_iload_n rfl dc162_0.1.1.2 ?_
  exact am_s_virtual true dc162_0.1.2.1 rfl (by decide) rfl rfl rfl (q)
theorem v162_5 {sc : Option (Nat × (Nat → Int32))} {d k n : Nat} {P : am_O → Prop} {I : am_I} {J : am_J} {Pf : am_R} (hp : am_PF Pf) {x1 : Int32} (q : (am_mth d 180 [.ref 0] (am_SH, I, J, Pf) (am_af sc d 162 6 [some (.ref 0), some (.int x1)] [.ref 0] [] (am_SH, I, J, Pf) k n true P))) : am_go sc d 162 (5, [some (.ref 0), some (.int x1)], [], (am_SH, I, J, Pf), k, n) P := by
  refine am_s_aload_n rfl dc162_0.1.2.2 ?_
  exact am_s_virtual true dc162_0.2.1.1 rfl (by decide) rfl rfl rfl (q)
theorem v162_9 {sc : Option (Nat × (Nat → Int32))} {d k n : Nat} {P : am_O → Prop} {I : am_I} {J : am_J} {Pf : am_R} (hp : am_PF Pf) {x1 : Int32} (q : ∃ r0_4x1 : Nat, (Pf 0 4 = some r0_4x1) ∧ (am_SH[r0_4x1]? = some (.inl 2)) ∧ (am_mth d 130 [.ref 145, .int x1, .int 0, .int (I 135 1)] (am_SH, I, J, Pf) (am_af sc d 162 30 [some (.ref 0), some (.int x1)] [.int (I 135 1), .int 0, .int x1, .ref 145, .ref r0_4x1, .ref 145] [.ref r0_4x1, .ref 145] (am_SH, I, J, Pf) k n false P))) : am_go sc d 162 (9, [some (.ref 0), some (.int x1)], [], (am_SH, I, J, Pf), k, n) P := by
  refine am_s_aload_n rfl dc162_0.2.1.2 ?_
  refine am_s_getR (r := 145) dc162_0.2.2.1 rfl rfl rfl (hp _ _ _ rfl) ?_
  refine am_s_aload_n rfl dc162_0.2.2.2 ?_
  obtain ⟨r0_4x1, qx1⟩ := q
  refine am_s_getR (r := r0_4x1) dc162_1.1.1.1 rfl rfl rfl (qx1.1) ?_
  refine am_s_aload_n rfl dc162_1.1.1.2 ?_
  refine am_s_getR (r := 145) dc162_1.1.2.1 rfl rfl rfl (hp _ _ _ rfl) ?_
  refine am_s_iload_n rfl dc162_1.1.2.2 ?_
  refine am_s_iconst am_cc0 dc162_1.2.1.1 ?_
  refine am_s_aload_n rfl dc162_1.2.1.2 ?_
  refine am_s_getR (r := 135) dc162_1.2.2.1 rfl rfl rfl (hp _ _ _ rfl) ?_
  refine am_x_getI (x := I 135 1) dc162_1.2.2.2 rfl rfl (Or.inl rfl) rfl ?_
  exact am_s_virtual false dc162_2.1 rfl (by decide) rfl rfl rfl (qx1.2.2)
theorem v162_33 {sc : Option (Nat × (Nat → Int32))} {d k n : Nat} {P : am_O → Prop} {I : am_I} {J : am_J} {Pf : am_R} (hp : am_PF Pf) {l0 : Option Value} {l1 : Option Value} {s1 : Nat} (hs1 : am_SH[s1]? = some (.inl 2)) {s2 : Int32} (q : (am_mth d 138 [.ref 145, .ref s1, .int s2] (am_SH, I, J, Pf) (am_af sc d 162 33 [l0, l1] [.int s2, .ref s1, .ref 145] [] (am_SH, I, J, Pf) k n false P))) : am_go sc d 162 (33, [l0, l1], [.int s2, .ref s1, .ref 145], (am_SH, I, J, Pf), k, n) P := by
  exact am_s_virtual false dc162_2.2.1 rfl (by decide) rfl rfl rfl (q)
theorem v162_36 {sc : Option (Nat × (Nat → Int32))} {d k n : Nat} {P : am_O → Prop} {I : am_I} {J : am_J} {Pf : am_R} (hp : am_PF Pf) {l0 : Option Value} {l1 : Option Value} {s0 : Int32} (q : (P (.inl (some (.int s0)), (am_SH, I, J, Pf), k, n))) : am_go sc d 162 (36, [l0, l1], [.int s0], (am_SH, I, J, Pf), k, n) P := by
  exact am_s_ireturn dc162_2.2.2 rfl (q)
-- pieces (I)I
theorem v163_0 {sc : Option (Nat × (Nat → Int32))} {d k n : Nat} {P : am_O → Prop} {I : am_I} {J : am_J} {Pf : am_R} (hp : am_PF Pf) {x1 : Int32} (q : (am_mth d 177 [.ref 0, .int x1] (am_SH, I, J, Pf) (am_af sc d 163 2 [some (.ref 0), some (.int x1)] [.int x1, .ref 0] [] (am_SH, I, J, Pf) k n true P))) : am_go sc d 163 (0, [some (.ref 0), some (.int x1)], [], (am_SH, I, J, Pf), k, n) P := by
  refine am_s_aload_n rfl dc163_0.1.1.1 ?_
  refine am_s_iload_n rfl dc163_0.1.1.2 ?_
  exact am_s_virtual true dc163_0.1.2.1 rfl (by decide) rfl rfl rfl (q)
theorem v163_5 {sc : Option (Nat × (Nat → Int32))} {d k n : Nat} {P : am_O → Prop} {I : am_I} {J : am_J} {Pf : am_R} (hp : am_PF Pf) {x1 : Int32} (q : (am_mth d 180 [.ref 0] (am_SH, I, J, Pf) (am_af sc d 163 6 [some (.ref 0), some (.int x1)] [.ref 0] [] (am_SH, I, J, Pf) k n true P))) : am_go sc d 163 (5, [some (.ref 0), some (.int x1)], [], (am_SH, I, J, Pf), k, n) P := by
  refine am_s_aload_n rfl dc163_0.1.2.2 ?_
  exact am_s_virtual true dc163_0.2.1.1 rfl (by decide) rfl rfl rfl (q)
theorem v163_9 {sc : Option (Nat × (Nat → Int32))} {d k n : Nat} {P : am_O → Prop} {I : am_I} {J : am_J} {Pf : am_R} (hp : am_PF Pf) {x1 : Int32} (q : (am_mth d 120 [.ref 135, .int x1] (am_SH, I, J, Pf) (am_af sc d 163 14 [some (.ref 0), some (.int x1)] [.int x1, .ref 135] [] (am_SH, I, J, Pf) k n false P))) : am_go sc d 163 (9, [some (.ref 0), some (.int x1)], [], (am_SH, I, J, Pf), k, n) P := by
  refine am_s_aload_n rfl dc163_0.2.1.2 ?_
  refine am_s_getR (r := 135) dc163_0.2.2.1 rfl rfl rfl (hp _ _ _ rfl) ?_
  refine am_s_iload_n rfl dc163_0.2.2.2 ?_
  exact am_s_virtual false dc163_1.1 rfl (by decide) rfl rfl rfl (q)
theorem v163_17 {sc : Option (Nat × (Nat → Int32))} {d k n : Nat} {P : am_O → Prop} {I : am_I} {J : am_J} {Pf : am_R} (hp : am_PF Pf) {l0 : Option Value} {l1 : Option Value} {s0 : Int32} (q : (P (.inl (some (.int s0)), (am_SH, I, J, Pf), k, n))) : am_go sc d 163 (17, [l0, l1], [.int s0], (am_SH, I, J, Pf), k, n) P := by
  exact am_s_ireturn dc163_1.2 rfl (q)
-- wrong (III)I
theorem v164_0 {sc : Option (Nat × (Nat → Int32))} {d k n : Nat} {P : am_O → Prop} {I : am_I} {J : am_J} {Pf : am_R} (hp : am_PF Pf) {x1 : Int32} {x2 : Int32} {x3 : Int32} (q : (am_mth d 177 [.ref 0, .int x1] (am_SH, I, J, Pf) (am_af sc d 164 2 [some (.ref 0), some (.int x1), some (.int x2), some (.int x3)] [.int x1, .ref 0] [] (am_SH, I, J, Pf) k n true P))) : am_go sc d 164 (0, [some (.ref 0), some (.int x1), some (.int x2), some (.int x3)], [], (am_SH, I, J, Pf), k, n) P := by
  refine am_s_aload_n rfl dc164_0.1.1.1 ?_
  refine am_s_iload_n rfl dc164_0.1.1.2 ?_
  exact am_s_virtual true dc164_0.1.2.1 rfl (by decide) rfl rfl rfl (q)
theorem v164_5 {sc : Option (Nat × (Nat → Int32))} {d k n : Nat} {P : am_O → Prop} {I : am_I} {J : am_J} {Pf : am_R} (hp : am_PF Pf) {x1 : Int32} {x2 : Int32} {x3 : Int32} (q : (am_mth d 176 [.ref 0, .int x2, .int 0, .int 2147483647] (am_SH, I, J, Pf) (am_af sc d 164 11 [some (.ref 0), some (.int x1), some (.int x2), some (.int x3)] [.int 2147483647, .int 0, .int x2, .ref 0] [] (am_SH, I, J, Pf) k n true P))) : am_go sc d 164 (5, [some (.ref 0), some (.int x1), some (.int x2), some (.int x3)], [], (am_SH, I, J, Pf), k, n) P := by
  refine am_s_aload_n rfl dc164_0.1.2.2 ?_
  refine am_s_iload_n rfl dc164_0.2.1.1 ?_
  refine am_s_iconst am_cc0 dc164_0.2.1.2 ?_
  refine am_s_ldcw (x := 2147483647) dc164_0.2.2.1 rfl rfl rfl ?_
  exact am_s_virtual true dc164_0.2.2.2 rfl (by decide) rfl rfl rfl (q)
theorem v164_14 {sc : Option (Nat × (Nat → Int32))} {d k n : Nat} {P : am_O → Prop} {I : am_I} {J : am_J} {Pf : am_R} (hp : am_PF Pf) {x1 : Int32} {x2 : Int32} {x3 : Int32} (q : (am_mth d 176 [.ref 0, .int x3, .int 0, .int 2] (am_SH, I, J, Pf) (am_af sc d 164 18 [some (.ref 0), some (.int x1), some (.int x2), some (.int x3)] [.int 2, .int 0, .int x3, .ref 0] [] (am_SH, I, J, Pf) k n true P))) : am_go sc d 164 (14, [some (.ref 0), some (.int x1), some (.int x2), some (.int x3)], [], (am_SH, I, J, Pf), k, n) P := by
  refine am_s_aload_n rfl dc164_1.1.1.1 ?_
  refine am_s_iload_n rfl dc164_1.1.1.2 ?_
  refine am_s_iconst am_cc0 dc164_1.1.2.1 ?_
  refine am_s_iconst am_cc2 dc164_1.1.2.2 ?_
  exact am_s_virtual true dc164_1.2.1.1 rfl (by decide) rfl rfl rfl (q)
theorem v164_21 {sc : Option (Nat × (Nat → Int32))} {d k n : Nat} {P : am_O → Prop} {I : am_I} {J : am_J} {Pf : am_R} (hp : am_PF Pf) {x1 : Int32} {x2 : Int32} {x3 : Int32} (q : (am_mth d 180 [.ref 0] (am_SH, I, J, Pf) (am_af sc d 164 22 [some (.ref 0), some (.int x1), some (.int x2), some (.int x3)] [.ref 0] [] (am_SH, I, J, Pf) k n true P))) : am_go sc d 164 (21, [some (.ref 0), some (.int x1), some (.int x2), some (.int x3)], [], (am_SH, I, J, Pf), k, n) P := by
  refine am_s_aload_n rfl dc164_1.2.1.2 ?_
  exact am_s_virtual true dc164_1.2.2.1 rfl (by decide) rfl rfl rfl (q)
theorem v164_25 {sc : Option (Nat × (Nat → Int32))} {d k n : Nat} {P : am_O → Prop} {I : am_I} {J : am_J} {Pf : am_R} (hp : am_PF Pf) {x1 : Int32} {x2 : Int32} {x3 : Int32} (q : (am_mth d 18 [.ref 112, .ref 135, .int x1] (am_SH, I, J, Pf) (am_af sc d 164 35 [some (.ref 0), some (.int x1), some (.int x2), some (.int x3)] [.int x1, .ref 135, .ref 112, .int x2] [.int x2] (am_SH, I, J, Pf) k n false P))) : am_go sc d 164 (25, [some (.ref 0), some (.int x1), some (.int x2), some (.int x3)], [], (am_SH, I, J, Pf), k, n) P := by
  refine am_s_iload_n rfl dc164_1.2.2.2 ?_
  refine am_s_aload_n rfl dc164_2.1.1.1 ?_
  refine am_s_getR (r := 112) dc164_2.1.1.2 rfl rfl rfl (hp _ _ _ rfl) ?_
  refine am_s_aload_n rfl dc164_2.1.2.1 ?_
  refine am_s_getR (r := 135) dc164_2.1.2.2 rfl rfl rfl (hp _ _ _ rfl) ?_
  refine am_s_iload_n rfl dc164_2.2.1.1 ?_
  exact am_s_virtual false dc164_2.2.1.2 rfl (by decide) rfl rfl rfl (q)
theorem v164_38 {sc : Option (Nat × (Nat → Int32))} {d k n : Nat} {P : am_O → Prop} {I : am_I} {J : am_J} {Pf : am_R} (hp : am_PF Pf) {l1 : Option Value} {x2 : Int32} {x3 : Int32} {s0 : Int32} {s1 : Int32} (q : (if s0 < s1 then (am_in ((x2 * 3) + x3) 12 = true) ∧ (P (.inl (some (.int (I 116 (Int32.toNatClampNeg ((x2 * 3) + x3))))), (am_SH, I, J, Pf), k, n)) else (P (.inl (some (.int (-1))), (am_SH, I, J, Pf), k, n)))) : am_go sc d 164 (38, [some (.ref 0), l1, some (.int x2), some (.int x3)], [.int s1, .int s0], (am_SH, I, J, Pf), k, n) P := by
  refine am_s_ic_lt dc164_2.2.2.1 rfl (fun c1 => ?_) (fun c1 => ?_)
  · refine am_s_aload_n rfl dc164_3.1.1.2 ?_
    refine am_s_getR (r := 112) dc164_3.1.2.1 rfl rfl rfl (hp _ _ _ rfl) ?_
    refine am_s_getR (r := 116) dc164_3.1.2.2 rfl rfl rfl (hp _ _ _ rfl) ?_
    refine am_s_iload_n rfl dc164_3.2.1.1 ?_
    refine am_s_iconst am_cc3 dc164_3.2.1.2 ?_
    refine am_s_imul dc164_3.2.2.1 ?_
    refine am_s_iload_n rfl dc164_3.2.2.2 ?_
    refine am_s_iadd dc164_4.1 ?_
    refine am_x_iaload (x := I 116 (Int32.toNatClampNeg ((x2 * 3) + x3))) dc164_4.2.1 rfl ((vi_t q c1).1) rfl rfl ?_
    exact am_s_ireturn dc164_4.2.2 rfl ((vi_t q c1).2)
  · refine am_s_iconst am_ccm1 dc164_2.2.2.2 ?_
    exact am_s_ireturn dc164_3.1.1.1 rfl ((vi_f q c1))
-- body (II)I
theorem v165_0 {sc : Option (Nat × (Nat → Int32))} {d k n : Nat} {P : am_O → Prop} {I : am_I} {J : am_J} {Pf : am_R} (hp : am_PF Pf) {x1 : Int32} {x2 : Int32} (q : ∃ r0_2x1 : Nat, (Pf 0 2 = some r0_2x1) ∧ (am_SH[r0_2x1]? = some (.inl 4)) ∧ (am_mth d 175 [.ref 0, .int x1, .int (I r0_2x1 9)] (am_SH, I, J, Pf) (am_af sc d 165 9 [some (.ref 0), some (.int x1), some (.int x2)] [.int (I r0_2x1 9), .int x1, .ref 0] [] (am_SH, I, J, Pf) k n true P))) : am_go sc d 165 (0, [some (.ref 0), some (.int x1), some (.int x2)], [], (am_SH, I, J, Pf), k, n) P := by
  refine am_s_aload_n rfl dc165_0.1.1.1 ?_
  refine am_s_iload_n rfl dc165_0.1.1.2 ?_
  refine am_s_aload_n rfl dc165_0.1.2.1 ?_
  obtain ⟨r0_2x1, qx1⟩ := q
  refine am_s_getR (r := r0_2x1) dc165_0.1.2.2 rfl rfl rfl (qx1.1) ?_
  refine am_x_getI (x := I r0_2x1 9) dc165_0.2.1.1 rfl (qx1.2.1) (Or.inl rfl) rfl ?_
  exact am_s_virtual true dc165_0.2.1.2 rfl (by decide) rfl rfl rfl (qx1.2.2)
theorem v165_12 {sc : Option (Nat × (Nat → Int32))} {d k n : Nat} {P : am_O → Prop} {I : am_I} {J : am_J} {Pf : am_R} (hp : am_PF Pf) {x1 : Int32} {x2 : Int32} (q : (am_mth d 175 [.ref 0, .int x2, .int (I 135 1)] (am_SH, I, J, Pf) (am_af sc d 165 21 [some (.ref 0), some (.int x1), some (.int x2)] [.int (I 135 1), .int x2, .ref 0] [] (am_SH, I, J, Pf) k n true P))) : am_go sc d 165 (12, [some (.ref 0), some (.int x1), some (.int x2)], [], (am_SH, I, J, Pf), k, n) P := by
  refine am_s_aload_n rfl dc165_0.2.2.1 ?_
  refine am_s_iload_n rfl dc165_0.2.2.2 ?_
  refine am_s_aload_n rfl dc165_1.1.1.1 ?_
  refine am_s_getR (r := 135) dc165_1.1.1.2 rfl rfl rfl (hp _ _ _ rfl) ?_
  refine am_x_getI (x := I 135 1) dc165_1.1.2.1 rfl rfl (Or.inl rfl) rfl ?_
  exact am_s_virtual true dc165_1.1.2.2 rfl (by decide) rfl rfl rfl (q)
theorem v165_24 {sc : Option (Nat × (Nat → Int32))} {d k n : Nat} {P : am_O → Prop} {I : am_I} {J : am_J} {Pf : am_R} (hp : am_PF Pf) {x1 : Int32} {x2 : Int32} (q : ∃ r0_2x1 : Nat, (Pf 0 2 = some r0_2x1) ∧ (am_SH[r0_2x1]? = some (.inl 4)) ∧ (am_mth d 115 [.ref 135, .ref r0_2x1, .int x1, .int x2, .ref 140] (am_SH, I, J, Pf) (am_af sc d 165 38 [some (.ref 0), some (.int x1), some (.int x2)] [.ref 140, .int x2, .int x1, .ref r0_2x1, .ref 135] [] (am_SH, I, J, Pf) k n false P))) : am_go sc d 165 (24, [some (.ref 0), some (.int x1), some (.int x2)], [], (am_SH, I, J, Pf), k, n) P := by
  refine am_s_aload_n rfl dc165_1.2.1.1 ?_
  refine am_s_getR (r := 135) dc165_1.2.1.2 rfl rfl rfl (hp _ _ _ rfl) ?_
  refine am_s_aload_n rfl dc165_1.2.2.1 ?_
  obtain ⟨r0_2x1, qx1⟩ := q
  refine am_s_getR (r := r0_2x1) dc165_1.2.2.2 rfl rfl rfl (qx1.1) ?_
  refine am_s_iload_n rfl dc165_2.1.1.1 ?_
  refine am_s_iload_n rfl dc165_2.1.1.2 ?_
  refine am_s_aload_n rfl dc165_2.1.2.1 ?_
  refine am_s_getR (r := 140) dc165_2.1.2.2 rfl rfl rfl (hp _ _ _ rfl) ?_
  exact am_s_virtual false dc165_2.2.1.1 rfl (by decide) rfl rfl rfl (qx1.2.2)
theorem v165_41 {sc : Option (Nat × (Nat → Int32))} {d k n : Nat} {P : am_O → Prop} {I : am_I} {J : am_J} {Pf : am_R} (hp : am_PF Pf) {l1 : Option Value} {l2 : Option Value} {s0 : Int32} (q : (if s0 = (-1) then (P (.inl (some (.int (-1))), (am_SH, I, J, Pf), k, n)) else (P (.inl (some (.int (I 140 1))), (am_SH, I, J, Pf), k, n)))) : am_go sc d 165 (41, [some (.ref 0), l1, l2], [.int s0], (am_SH, I, J, Pf), k, n) P := by
  refine am_s_iconst am_ccm1 dc165_2.2.1.2 ?_
  refine am_s_ic_ne dc165_2.2.2.1 rfl (fun c1 => ?_) (fun c1 => ?_)
  · refine am_s_aload_n rfl dc165_3.1.2 ?_
    refine am_s_getR (r := 140) dc165_3.2.1 rfl rfl rfl (hp _ _ _ rfl) ?_
    refine am_x_getI (x := I 140 1) dc165_3.2.2.1 rfl rfl (Or.inl rfl) rfl ?_
    exact am_s_ireturn dc165_3.2.2.2 rfl ((vi_f q c1))
  · refine am_s_iconst am_ccm1 dc165_2.2.2.2 ?_
    refine am_s_goto rfl dc165_3.1.1 ?_
    exact am_s_ireturn dc165_3.2.2.2 rfl ((vi_t q (Decidable.not_not.mp c1)))
-- inside (III)I
theorem v166_0 {sc : Option (Nat × (Nat → Int32))} {d k n : Nat} {P : am_O → Prop} {I : am_I} {J : am_J} {Pf : am_R} (hp : am_PF Pf) {x1 : Int32} {x2 : Int32} {x3 : Int32} (q : ∃ r0_2x1 : Nat, (Pf 0 2 = some r0_2x1) ∧ (am_SH[r0_2x1]? = some (.inl 4)) ∧ (am_mth d 175 [.ref 0, .int x1, .int (I r0_2x1 9)] (am_SH, I, J, Pf) (am_af sc d 166 9 [some (.ref 0), some (.int x1), some (.int x2), some (.int x3)] [.int (I r0_2x1 9), .int x1, .ref 0] [] (am_SH, I, J, Pf) k n true P))) : am_go sc d 166 (0, [some (.ref 0), some (.int x1), some (.int x2), some (.int x3)], [], (am_SH, I, J, Pf), k, n) P := by
  refine am_s_aload_n rfl dc166_0.1.1.1 ?_
  refine am_s_iload_n rfl dc166_0.1.1.2 ?_
  refine am_s_aload_n rfl dc166_0.1.2.1 ?_
  obtain ⟨r0_2x1, qx1⟩ := q
  refine am_s_getR (r := r0_2x1) dc166_0.1.2.2 rfl rfl rfl (qx1.1) ?_
  refine am_x_getI (x := I r0_2x1 9) dc166_0.2.1.1 rfl (qx1.2.1) (Or.inl rfl) rfl ?_
  exact am_s_virtual true dc166_0.2.1.2 rfl (by decide) rfl rfl rfl (qx1.2.2)
theorem v166_12 {sc : Option (Nat × (Nat → Int32))} {d k n : Nat} {P : am_O → Prop} {I : am_I} {J : am_J} {Pf : am_R} (hp : am_PF Pf) {x1 : Int32} {x2 : Int32} {x3 : Int32} (q : (am_mth d 175 [.ref 0, .int x2, .int (I 135 1)] (am_SH, I, J, Pf) (am_af sc d 166 21 [some (.ref 0), some (.int x1), some (.int x2), some (.int x3)] [.int (I 135 1), .int x2, .ref 0] [] (am_SH, I, J, Pf) k n true P))) : am_go sc d 166 (12, [some (.ref 0), some (.int x1), some (.int x2), some (.int x3)], [], (am_SH, I, J, Pf), k, n) P := by
  refine am_s_aload_n rfl dc166_0.2.2.1 ?_
  refine am_s_iload_n rfl dc166_0.2.2.2 ?_
  refine am_s_aload_n rfl dc166_1.1.1.1 ?_
  refine am_s_getR (r := 135) dc166_1.1.1.2 rfl rfl rfl (hp _ _ _ rfl) ?_
  refine am_x_getI (x := I 135 1) dc166_1.1.2.1 rfl rfl (Or.inl rfl) rfl ?_
  exact am_s_virtual true dc166_1.1.2.2 rfl (by decide) rfl rfl rfl (q)
theorem v166_24 {sc : Option (Nat × (Nat → Int32))} {d k n : Nat} {P : am_O → Prop} {I : am_I} {J : am_J} {Pf : am_R} (hp : am_PF Pf) {x1 : Int32} {x2 : Int32} {x3 : Int32} (q : (am_mth d 176 [.ref 0, .int x3, .int 0, .int 2147483647] (am_SH, I, J, Pf) (am_af sc d 166 30 [some (.ref 0), some (.int x1), some (.int x2), some (.int x3)] [.int 2147483647, .int 0, .int x3, .ref 0] [] (am_SH, I, J, Pf) k n true P))) : am_go sc d 166 (24, [some (.ref 0), some (.int x1), some (.int x2), some (.int x3)], [], (am_SH, I, J, Pf), k, n) P := by
  refine am_s_aload_n rfl dc166_1.2.1.1 ?_
  refine am_s_iload_n rfl dc166_1.2.1.2 ?_
  refine am_s_iconst am_cc0 dc166_1.2.2.1 ?_
  refine am_s_ldcw (x := 2147483647) dc166_1.2.2.2 rfl rfl rfl ?_
  exact am_s_virtual true dc166_2.1.1.1 rfl (by decide) rfl rfl rfl (q)
theorem v166_33 {sc : Option (Nat × (Nat → Int32))} {d k n : Nat} {P : am_O → Prop} {I : am_I} {J : am_J} {Pf : am_R} (hp : am_PF Pf) {x1 : Int32} {x2 : Int32} {x3 : Int32} (q : ∃ r0_2x1 : Nat, (Pf 0 2 = some r0_2x1) ∧ (am_SH[r0_2x1]? = some (.inl 4)) ∧ (am_mth d 115 [.ref 135, .ref r0_2x1, .int x1, .int x2, .ref 140] (am_SH, I, J, Pf) (am_af sc d 166 47 [some (.ref 0), some (.int x1), some (.int x2), some (.int x3)] [.ref 140, .int x2, .int x1, .ref r0_2x1, .ref 135] [] (am_SH, I, J, Pf) k n false P))) : am_go sc d 166 (33, [some (.ref 0), some (.int x1), some (.int x2), some (.int x3)], [], (am_SH, I, J, Pf), k, n) P := by
  refine am_s_aload_n rfl dc166_2.1.1.2 ?_
  refine am_s_getR (r := 135) dc166_2.1.2.1 rfl rfl rfl (hp _ _ _ rfl) ?_
  refine am_s_aload_n rfl dc166_2.1.2.2 ?_
  obtain ⟨r0_2x1, qx1⟩ := q
  refine am_s_getR (r := r0_2x1) dc166_2.2.1.1 rfl rfl rfl (qx1.1) ?_
  refine am_s_iload_n rfl dc166_2.2.1.2 ?_
  refine am_s_iload_n rfl dc166_2.2.2.1 ?_
  refine am_s_aload_n rfl dc166_2.2.2.2 ?_
  refine am_s_getR (r := 140) dc166_3.1.1.1 rfl rfl rfl (hp _ _ _ rfl) ?_
  exact am_s_virtual false dc166_3.1.1.2 rfl (by decide) rfl rfl rfl (qx1.2.2)
theorem v166_50 {sc : Option (Nat × (Nat → Int32))} {d k n : Nat} {P : am_O → Prop} {I : am_I} {J : am_J} {Pf : am_R} (hp : am_PF Pf) {l1 : Option Value} {l2 : Option Value} {x3 : Int32} {s0 : Int32} (q : (if s0 = (-1) then (P (.inl (some (.int (-1))), (am_SH, I, J, Pf), k, n)) else (if (I 140 1) ≤ x3 then (P (.inl (some (.int (-1))), (am_SH, I, J, Pf), k, n)) else (am_in x3 24 = true) ∧ (P (.inl (some (.int (I 141 (Int32.toNatClampNeg x3)))), (am_SH, I, J, Pf), k, n))))) : am_go sc d 166 (50, [some (.ref 0), l1, l2, some (.int x3)], [.int s0], (am_SH, I, J, Pf), k, n) P := by
  refine am_s_iconst am_ccm1 dc166_3.1.2.1 ?_
  refine am_s_ic_ne dc166_3.1.2.2 rfl (fun c1 => ?_) (fun c1 => ?_)
  · refine am_s_iload_n rfl dc166_3.2.2.1 ?_
    refine am_s_aload_n rfl dc166_3.2.2.2 ?_
    refine am_s_getR (r := 140) dc166_4.1.1.1 rfl rfl rfl (hp _ _ _ rfl) ?_
    refine am_x_getI (x := I 140 1) dc166_4.1.1.2 rfl rfl (Or.inl rfl) rfl ?_
    refine am_s_ic_ge dc166_4.1.2.1 rfl (fun c2 => ?_) (fun c2 => ?_)
    · refine am_s_iconst am_ccm1 dc166_5.2.1 ?_
      exact am_s_ireturn dc166_5.2.2 rfl ((vi_t (vi_f q c1) c2))
    · refine am_s_aload_n rfl dc166_4.1.2.2 ?_
      refine am_s_getR (r := 140) dc166_4.2.1.1 rfl rfl rfl (hp _ _ _ rfl) ?_
      refine am_s_getR (r := 141) dc166_4.2.1.2 rfl rfl rfl (hp _ _ _ rfl) ?_
      refine am_s_iload_n rfl dc166_4.2.2.1 ?_
      refine am_x_iaload (x := I 141 (Int32.toNatClampNeg x3)) dc166_4.2.2.2 rfl ((vi_f (vi_f q c1) c2).1) rfl rfl ?_
      refine am_s_goto rfl dc166_5.1 ?_
      exact am_s_ireturn dc166_5.2.2 rfl ((vi_f (vi_f q c1) c2).2)
  · refine am_s_iconst am_ccm1 dc166_3.2.1.1 ?_
    exact am_s_ireturn dc166_3.2.1.2 rfl ((vi_t q (Decidable.not_not.mp c1)))
-- fits (III)I
theorem v167_0 {sc : Option (Nat × (Nat → Int32))} {d k n : Nat} {P : am_O → Prop} {I : am_I} {J : am_J} {Pf : am_R} (hp : am_PF Pf) {x1 : Int32} {x2 : Int32} {x3 : Int32} {l4 : Option Value} {l5 : Option Value} (q : (am_mth d 175 [.ref 0, .int x2, .int (I 135 1)] (am_SH, I, J, Pf) (am_af sc d 167 9 [some (.ref 0), some (.int x1), some (.int x2), some (.int x3), l4, l5] [.int (I 135 1), .int x2, .ref 0] [] (am_SH, I, J, Pf) k n true P))) : am_go sc d 167 (0, [some (.ref 0), some (.int x1), some (.int x2), some (.int x3), l4, l5], [], (am_SH, I, J, Pf), k, n) P := by
  refine am_s_aload_n rfl dc167_0.1.1.1 ?_
  refine am_s_iload_n rfl dc167_0.1.1.2 ?_
  refine am_s_aload_n rfl dc167_0.1.2.1 ?_
  refine am_s_getR (r := 135) dc167_0.1.2.2 rfl rfl rfl (hp _ _ _ rfl) ?_
  refine am_x_getI (x := I 135 1) dc167_0.2.1.1 rfl rfl (Or.inl rfl) rfl ?_
  exact am_s_virtual true dc167_0.2.1.2 rfl (by decide) rfl rfl rfl (q)
theorem v167_12 {sc : Option (Nat × (Nat → Int32))} {d k n : Nat} {P : am_O → Prop} {I : am_I} {J : am_J} {Pf : am_R} (hp : am_PF Pf) {x1 : Int32} {x2 : Int32} {x3 : Int32} {l4 : Option Value} {l5 : Option Value} (q : (am_mth d 177 [.ref 0, .int x1] (am_SH, I, J, Pf) (am_af sc d 167 14 [some (.ref 0), some (.int x1), some (.int x2), some (.int x3), l4, l5] [.int x1, .ref 0] [] (am_SH, I, J, Pf) k n true P))) : am_go sc d 167 (12, [some (.ref 0), some (.int x1), some (.int x2), some (.int x3), l4, l5], [], (am_SH, I, J, Pf), k, n) P := by
  refine am_s_aload_n rfl dc167_0.2.2.1 ?_
  refine am_s_iload_n rfl dc167_0.2.2.2 ?_
  exact am_s_virtual true dc167_1.1.1.1 rfl (by decide) rfl rfl rfl (q)
theorem v167_17 {sc : Option (Nat × (Nat → Int32))} {d k n : Nat} {P : am_O → Prop} {I : am_I} {J : am_J} {Pf : am_R} (hp : am_PF Pf) {x1 : Int32} {x2 : Int32} {x3 : Int32} {l4 : Option Value} {l5 : Option Value} (q : (am_mth d 176 [.ref 0, .int x3, .int 0, .int 2] (am_SH, I, J, Pf) (am_af sc d 167 21 [some (.ref 0), some (.int x1), some (.int x2), some (.int x3), l4, l5] [.int 2, .int 0, .int x3, .ref 0] [] (am_SH, I, J, Pf) k n true P))) : am_go sc d 167 (17, [some (.ref 0), some (.int x1), some (.int x2), some (.int x3), l4, l5], [], (am_SH, I, J, Pf), k, n) P := by
  refine am_s_aload_n rfl dc167_1.1.1.2 ?_
  refine am_s_iload_n rfl dc167_1.1.2.1 ?_
  refine am_s_iconst am_cc0 dc167_1.1.2.2 ?_
  refine am_s_iconst am_cc2 dc167_1.2.1.1 ?_
  exact am_s_virtual true dc167_1.2.1.2 rfl (by decide) rfl rfl rfl (q)
theorem v167_24 {sc : Option (Nat × (Nat → Int32))} {d k n : Nat} {P : am_O → Prop} {I : am_I} {J : am_J} {Pf : am_R} (hp : am_PF Pf) {x1 : Int32} {x2 : Int32} {x3 : Int32} {l4 : Option Value} {l5 : Option Value} (q : (am_mth d 17 [.ref 112, .ref 135, .ref 140, .int x1, .int x2] (am_SH, I, J, Pf) (am_af sc d 167 38 [some (.ref 0), some (.int x1), some (.int x2), some (.int x3), l4, l5] [.int x2, .int x1, .ref 140, .ref 135, .ref 112] [] (am_SH, I, J, Pf) k n false P))) : am_go sc d 167 (24, [some (.ref 0), some (.int x1), some (.int x2), some (.int x3), l4, l5], [], (am_SH, I, J, Pf), k, n) P := by
  refine am_s_aload_n rfl dc167_1.2.2.1 ?_
  refine am_s_getR (r := 112) dc167_1.2.2.2 rfl rfl rfl (hp _ _ _ rfl) ?_
  refine am_s_aload_n rfl dc167_2.1.1.1 ?_
  refine am_s_getR (r := 135) dc167_2.1.1.2 rfl rfl rfl (hp _ _ _ rfl) ?_
  refine am_s_aload_n rfl dc167_2.1.2.1 ?_
  refine am_s_getR (r := 140) dc167_2.1.2.2 rfl rfl rfl (hp _ _ _ rfl) ?_
  refine am_s_iload_n rfl dc167_2.2.1.1 ?_
  refine am_s_iload_n rfl dc167_2.2.1.2 ?_
  exact am_s_virtual false dc167_2.2.2.1 rfl (by decide) rfl rfl rfl (q)
theorem v167_41 {sc : Option (Nat × (Nat → Int32))} {d k n : Nat} {P : am_O → Prop} {I : am_I} {J : am_J} {Pf : am_R} (hp : am_PF Pf) {l1 : Option Value} {l2 : Option Value} {x3 : Int32} {l4 : Option Value} {l5 : Option Value} {s0 : Nat} (hs0 : am_SH[s0]? = some (.inl 6)) (q : (am_mth d 83 [.ref s0] (am_SH, I, J, Pf) (am_af sc d 167 45 [some (.ref 0), l1, l2, some (.int x3), some (.ref s0), l5] [.ref s0] [] (am_SH, I, J, Pf) k n false P))) : am_go sc d 167 (41, [some (.ref 0), l1, l2, some (.int x3), l4, l5], [.ref s0], (am_SH, I, J, Pf), k, n) P := by
  refine am_s_astore (ls' := [some (.ref 0), l1, l2, some (.int x3), some (.ref s0), l5]) rfl rfl dc167_2.2.2.2 ?_
  refine am_s_aload rfl dc167_3.1.1.1 ?_
  exact am_s_virtual false dc167_3.1.1.2 rfl (by decide) rfl hs0 rfl (q)
theorem v167_48 {sc : Option (Nat × (Nat → Int32))} {d k n : Nat} {P : am_O → Prop} {I : am_I} {J : am_J} {Pf : am_R} (hp : am_PF Pf) {l1 : Option Value} {l2 : Option Value} {x3 : Int32} {x4 : Nat} (hx4 : am_SH[x4]? = some (.inl 6)) {l5 : Option Value} {s0 : Int32} (q : (if x3 = 0 then (P (.inl (some (.int s0)), (am_SH, I, J, Pf), k, n)) else (if s0 = 0 then (P (.inl (some (.int (-1))), (am_SH, I, J, Pf), k, n)) else (if x3 = 1 then (am_mth d 87 [.ref x4] (am_SH, I, J, Pf) (am_af sc d 167 71 [some (.ref 0), l1, l2, some (.int x3), some (.ref x4), some (.int s0)] [.ref x4] [] (am_SH, I, J, Pf) k n false P)) else ∃ r0_2x1 : Nat, (Pf 0 2 = some r0_2x1) ∧ (am_SH[r0_2x1]? = some (.inl 4)) ∧ (am_mth d 68 [.ref r0_2x1, .ref x4] (am_SH, I, J, Pf) (am_af sc d 167 83 [some (.ref 0), l1, l2, some (.int x3), some (.ref x4), some (.int s0)] [.ref x4, .ref r0_2x1] [] (am_SH, I, J, Pf) k n false P)))))) : am_go sc d 167 (48, [some (.ref 0), l1, l2, some (.int x3), some (.ref x4), l5], [.int s0], (am_SH, I, J, Pf), k, n) P := by
  refine am_s_istore (ls' := [some (.ref 0), l1, l2, some (.int x3), some (.ref x4), some (.int s0)]) rfl rfl dc167_3.1.2.1 ?_
  refine am_s_iload_n rfl dc167_3.1.2.2 ?_
  refine am_s_if_ne dc167_3.2.1.1 rfl (fun c1 => ?_) (fun c1 => ?_)
  · refine am_s_iload rfl dc167_3.2.2.2 ?_
    refine am_s_if_ne dc167_4.1.1.1 rfl (fun c2 => ?_) (fun c2 => ?_)
    · refine am_s_iload_n rfl dc167_4.1.2.2 ?_
      refine am_s_iconst am_cc1 dc167_4.2.1.1 ?_
      refine am_s_ic_ne dc167_4.2.1.2 rfl (fun c3 => ?_) (fun c3 => ?_)
      · refine am_s_aload_n rfl dc167_5.1.2.1 ?_
        obtain ⟨r0_2x1, qx1⟩ := (vi_f (vi_f (vi_f q c1) c2) c3)
        refine am_s_getR (r := r0_2x1) dc167_5.1.2.2 rfl rfl rfl (qx1.1) ?_
        refine am_s_aload rfl dc167_5.2.1 ?_
        exact am_s_virtual false dc167_5.2.2.1 rfl (by decide) rfl (qx1.2.1) rfl (qx1.2.2)
      · refine am_s_aload rfl dc167_4.2.2.1 ?_
        exact am_s_virtual false dc167_4.2.2.2 rfl (by decide) rfl hx4 rfl ((vi_t (vi_f (vi_f q c1) c2) (Decidable.not_not.mp c3)))
    · refine am_s_iconst am_ccm1 dc167_4.1.1.2 ?_
      exact am_s_ireturn dc167_4.1.2.1 rfl ((vi_t (vi_f q c1) (Decidable.not_not.mp c2)))
  · refine am_s_iload rfl dc167_3.2.1.2 ?_
    exact am_s_ireturn dc167_3.2.2.1 rfl ((vi_t q (Decidable.not_not.mp c1)))
theorem v167_74 {sc : Option (Nat × (Nat → Int32))} {d k n : Nat} {P : am_O → Prop} {I : am_I} {J : am_J} {Pf : am_R} (hp : am_PF Pf) {l0 : Option Value} {l1 : Option Value} {l2 : Option Value} {l3 : Option Value} {l4 : Option Value} {l5 : Option Value} {s0 : Int32} (q : (P (.inl (some (.int s0)), (am_SH, I, J, Pf), k, n))) : am_go sc d 167 (74, [l0, l1, l2, l3, l4, l5], [.int s0], (am_SH, I, J, Pf), k, n) P := by
  refine am_s_goto rfl dc167_5.1.1 ?_
  exact am_s_ireturn dc167_5.2.2.2 rfl (q)
theorem v167_86 {sc : Option (Nat × (Nat → Int32))} {d k n : Nat} {P : am_O → Prop} {I : am_I} {J : am_J} {Pf : am_R} (hp : am_PF Pf) {l0 : Option Value} {l1 : Option Value} {l2 : Option Value} {l3 : Option Value} {l4 : Option Value} {l5 : Option Value} {s0 : Int32} (q : (P (.inl (some (.int s0)), (am_SH, I, J, Pf), k, n))) : am_go sc d 167 (86, [l0, l1, l2, l3, l4, l5], [.int s0], (am_SH, I, J, Pf), k, n) P := by
  exact am_s_ireturn dc167_5.2.2.2 rfl (q)
-- commonest (I)I
theorem v168_0 {sc : Option (Nat × (Nat → Int32))} {d k n : Nat} {P : am_O → Prop} {I : am_I} {J : am_J} {Pf : am_R} (hp : am_PF Pf) {x1 : Int32} {l2 : Option Value} {l3 : Option Value} (q : (am_mth d 176 [.ref 0, .int x1, .int 0, .int 1] (am_SH, I, J, Pf) (am_af sc d 168 4 [some (.ref 0), some (.int x1), l2, l3] [.int 1, .int 0, .int x1, .ref 0] [] (am_SH, I, J, Pf) k n true P))) : am_go sc d 168 (0, [some (.ref 0), some (.int x1), l2, l3], [], (am_SH, I, J, Pf), k, n) P := by
  refine am_s_aload_n rfl dc168_0.1.1.1 ?_
  refine am_s_iload_n rfl dc168_0.1.1.2 ?_
  refine am_s_iconst am_cc0 dc168_0.1.2.1 ?_
  refine am_s_iconst am_cc1 dc168_0.1.2.2 ?_
  exact am_s_virtual true dc168_0.2.1.1 rfl (by decide) rfl rfl rfl (q)
theorem v168_15 {sc : Option (Nat × (Nat → Int32))} {d k n : Nat} {P : am_O → Prop} {I : am_I} {J : am_J} {Pf : am_R} (hp : am_PF Pf) {x1 : Int32} {x2 : Int32} {x3 : Int32} (q : (if 8 ≤ x3 then (if x1 = 0 then (P (.inl (some (.int x2)), (am_SH, I, J, Pf), k, n)) else (am_mth d 120 [.ref 135, .int x2] (am_SH, I, J, Pf) (am_af sc d 168 61 [some (.ref 0), some (.int x1), some (.int x2), some (.int x3)] [.int x2, .ref 135] [] (am_SH, I, J, Pf) k n false P))) else (am_mth d 120 [.ref 135, .int x3] (am_SH, I, J, Pf) (am_af sc d 168 26 [some (.ref 0), some (.int x1), some (.int x2), some (.int x3)] [.int x3, .ref 135] [] (am_SH, I, J, Pf) k n false P)))) : am_go sc d 168 (15, [some (.ref 0), some (.int x1), some (.int x2), some (.int x3)], [], (am_SH, I, J, Pf), k, n) P := by
  refine am_s_iload_n rfl dc168_1.1.2.2 ?_
  refine am_s_bipush am_cb8 dc168_1.2.1.1 ?_
  refine am_s_ic_ge dc168_1.2.1.2 rfl (fun c1 => ?_) (fun c1 => ?_)
  · refine am_s_iload_n rfl dc168_3.1.2.2 ?_
    refine am_s_if_ne dc168_3.2.1.1 rfl (fun c2 => ?_) (fun c2 => ?_)
    · refine am_s_aload_n rfl dc168_3.2.2.2 ?_
      refine am_s_getR (r := 135) dc168_4.1.1 rfl rfl rfl (hp _ _ _ rfl) ?_
      refine am_s_iload_n rfl dc168_4.1.2 ?_
      exact am_s_virtual false dc168_4.2.1 rfl (by decide) rfl rfl rfl ((vi_f (vi_t q c1) c2))
    · refine am_s_iload_n rfl dc168_3.2.1.2 ?_
      refine am_s_goto rfl dc168_3.2.2.1 ?_
      exact am_s_ireturn dc168_4.2.2 rfl ((vi_t (vi_t q c1) (Decidable.not_not.mp c2)))
  · refine am_s_aload_n rfl dc168_1.2.2.1 ?_
    refine am_s_getR (r := 135) dc168_1.2.2.2 rfl rfl rfl (hp _ _ _ rfl) ?_
    refine am_s_iload_n rfl dc168_2.1.1.1 ?_
    exact am_s_virtual false dc168_2.1.1.2 rfl (by decide) rfl rfl rfl ((vi_f q c1))
theorem v168_7 {sc : Option (Nat × (Nat → Int32))} {d k n : Nat} {P : am_O → Prop} {I : am_I} {J : am_J} {Pf : am_R} (hp : am_PF Pf) {x1 : Int32} {l2 : Option Value} {l3 : Option Value} (q : (am_mth d 180 [.ref 0] (am_SH, I, J, Pf) (am_af sc d 168 8 [some (.ref 0), some (.int x1), l2, l3] [.ref 0] [] (am_SH, I, J, Pf) k n true P))) : am_go sc d 168 (7, [some (.ref 0), some (.int x1), l2, l3], [], (am_SH, I, J, Pf), k, n) P := by
  refine am_s_aload_n rfl dc168_0.2.1.2 ?_
  exact am_s_virtual true dc168_0.2.2.1 rfl (by decide) rfl rfl rfl (q)
theorem v168_29 {sc : Option (Nat × (Nat → Int32))} {d k n : Nat} {P : am_O → Prop} {I : am_I} {J : am_J} {Pf : am_R} (hp : am_PF Pf) {x1 : Int32} {x2 : Int32} {x3 : Int32} {s0 : Int32} (q : (am_mth d 120 [.ref 135, .int x2] (am_SH, I, J, Pf) (am_af sc d 168 34 [some (.ref 0), some (.int x1), some (.int x2), some (.int x3)] [.int x2, .ref 135, .int s0] [.int s0] (am_SH, I, J, Pf) k n false P))) : am_go sc d 168 (29, [some (.ref 0), some (.int x1), some (.int x2), some (.int x3)], [.int s0], (am_SH, I, J, Pf), k, n) P := by
  refine am_s_aload_n rfl dc168_2.1.2.1 ?_
  refine am_s_getR (r := 135) dc168_2.1.2.2 rfl rfl rfl (hp _ _ _ rfl) ?_
  refine am_s_iload_n rfl dc168_2.2.1.1 ?_
  exact am_s_virtual false dc168_2.2.1.2 rfl (by decide) rfl rfl rfl (q)
theorem v168_64 {sc : Option (Nat × (Nat → Int32))} {d k n : Nat} {P : am_O → Prop} {I : am_I} {J : am_J} {Pf : am_R} (hp : am_PF Pf) {l0 : Option Value} {l1 : Option Value} {l2 : Option Value} {l3 : Option Value} {s0 : Int32} (q : (P (.inl (some (.int s0)), (am_SH, I, J, Pf), k, n))) : am_go sc d 168 (64, [l0, l1, l2, l3], [.int s0], (am_SH, I, J, Pf), k, n) P := by
  exact am_s_ireturn dc168_4.2.2 rfl (q)
theorem v168_11 {sc : Option (Nat × (Nat → Int32))} {d k n : Nat} {P : am_O → Prop} {I : am_I} {J : am_J} {Pf : am_R} (hp : am_PF Pf) {x1 : Int32} {l2 : Option Value} {l3 : Option Value} (q : (am_go sc d 168 (15, [some (.ref 0), some (.int x1), some (.int 0), some (.int 1)], [], (am_SH, I, J, Pf), k, n) P)) : am_go sc d 168 (11, [some (.ref 0), some (.int x1), l2, l3], [], (am_SH, I, J, Pf), k, n) P := by
  refine am_s_iconst am_cc0 dc168_0.2.2.2 ?_
  refine am_s_istore_n (ls' := [some (.ref 0), some (.int x1), some (.int 0), l3]) rfl rfl dc168_1.1.1.1 ?_
  refine am_s_iconst am_cc1 dc168_1.1.1.2 ?_
  refine am_s_istore_n (ls' := [some (.ref 0), some (.int x1), some (.int 0), some (.int 1)]) rfl rfl dc168_1.1.2.1 ?_
  exact q
theorem v168_37 {sc : Option (Nat × (Nat → Int32))} {d k n : Nat} {P : am_O → Prop} {I : am_I} {J : am_J} {Pf : am_R} (hp : am_PF Pf) {x1 : Int32} {x2 : Int32} {x3 : Int32} {s0 : Int32} {s1 : Int32} (q : (if s0 ≤ s1 then (am_go sc d 168 (15, [some (.ref 0), some (.int x1), some (.int x2), some (.int (x3 + 1))], [], (am_SH, I, J, Pf), k, n) P) else (am_go sc d 168 (15, [some (.ref 0), some (.int x1), some (.int x3), some (.int (x3 + 1))], [], (am_SH, I, J, Pf), k, n) P))) : am_go sc d 168 (37, [some (.ref 0), some (.int x1), some (.int x2), some (.int x3)], [.int s1, .int s0], (am_SH, I, J, Pf), k, n) P := by
  refine am_s_ic_le dc168_2.2.2.1 rfl (fun c1 => ?_) (fun c1 => ?_)
  · refine am_s_iinc (ls' := [some (.ref 0), some (.int x1), some (.int x2), some (.int (x3 + 1))]) am_cc1 rfl rfl dc168_3.1.1.2 ?_
    refine am_s_goto rfl dc168_3.1.2.1 ?_
    exact (vi_t q c1)
  · refine am_s_iload_n rfl dc168_2.2.2.2 ?_
    refine am_s_istore_n (ls' := [some (.ref 0), some (.int x1), some (.int x3), some (.int x3)]) rfl rfl dc168_3.1.1.1 ?_
    refine am_s_iinc (ls' := [some (.ref 0), some (.int x1), some (.int x3), some (.int (x3 + 1))]) am_cc1 rfl rfl dc168_3.1.1.2 ?_
    refine am_s_goto rfl dc168_3.1.2.1 ?_
    exact (vi_f q c1)
-- year (III)I
theorem v169_0 {sc : Option (Nat × (Nat → Int32))} {d k n : Nat} {P : am_O → Prop} {I : am_I} {J : am_J} {Pf : am_R} (hp : am_PF Pf) {x1 : Int32} {x2 : Int32} {x3 : Int32} {l4 : Option Value} (q : (am_mth d 176 [.ref 0, .int x2, .int 1, .int 24] (am_SH, I, J, Pf) (am_af sc d 169 5 [some (.ref 0), some (.int x1), some (.int x2), some (.int x3), l4] [.int 24, .int 1, .int x2, .ref 0] [] (am_SH, I, J, Pf) k n true P))) : am_go sc d 169 (0, [some (.ref 0), some (.int x1), some (.int x2), some (.int x3), l4], [], (am_SH, I, J, Pf), k, n) P := by
  refine am_s_aload_n rfl dc169_0.1.1.1 ?_
  refine am_s_iload_n rfl dc169_0.1.1.2 ?_
  refine am_s_iconst am_cc1 dc169_0.1.2.1 ?_
  refine am_s_bipush am_cb24 dc169_0.1.2.2 ?_
  exact am_s_virtual true dc169_0.2.1.1 rfl (by decide) rfl rfl rfl (q)
theorem v169_8 {sc : Option (Nat × (Nat → Int32))} {d k n : Nat} {P : am_O → Prop} {I : am_I} {J : am_J} {Pf : am_R} (hp : am_PF Pf) {x1 : Int32} {x2 : Int32} {x3 : Int32} {l4 : Option Value} (q : (am_mth d 176 [.ref 0, .int x3, .int 0, .int 3] (am_SH, I, J, Pf) (am_af sc d 169 12 [some (.ref 0), some (.int x1), some (.int x2), some (.int x3), l4] [.int 3, .int 0, .int x3, .ref 0] [] (am_SH, I, J, Pf) k n true P))) : am_go sc d 169 (8, [some (.ref 0), some (.int x1), some (.int x2), some (.int x3), l4], [], (am_SH, I, J, Pf), k, n) P := by
  refine am_s_aload_n rfl dc169_0.2.1.2 ?_
  refine am_s_iload_n rfl dc169_0.2.2.1 ?_
  refine am_s_iconst am_cc0 dc169_0.2.2.2 ?_
  refine am_s_iconst am_cc3 dc169_1.1.1.1 ?_
  exact am_s_virtual true dc169_1.1.1.2 rfl (by decide) rfl rfl rfl (q)
theorem v169_15 {sc : Option (Nat × (Nat → Int32))} {d k n : Nat} {P : am_O → Prop} {I : am_I} {J : am_J} {Pf : am_R} (hp : am_PF Pf) {x1 : Int32} {x2 : Int32} {x3 : Int32} {l4 : Option Value} (q : (if x3 = 3 then (am_mth d 183 [.ref 0, .int x1, .int x2, .int 1] (am_SH, I, J, Pf) (am_af sc d 169 28 [some (.ref 0), some (.int x1), some (.int x2), some (.int x3), l4] [.int 1, .int x2, .int x1, .ref 0] [] (am_SH, I, J, Pf) k n true P)) else (am_mth d 183 [.ref 0, .int x1, .int x2, .int 0] (am_SH, I, J, Pf) (am_af sc d 169 28 [some (.ref 0), some (.int x1), some (.int x2), some (.int x3), l4] [.int 0, .int x2, .int x1, .ref 0] [] (am_SH, I, J, Pf) k n true P)))) : am_go sc d 169 (15, [some (.ref 0), some (.int x1), some (.int x2), some (.int x3), l4], [], (am_SH, I, J, Pf), k, n) P := by
  refine am_s_aload_n rfl dc169_1.1.2.1 ?_
  refine am_s_iload_n rfl dc169_1.1.2.2 ?_
  refine am_s_iload_n rfl dc169_1.2.1.1 ?_
  refine am_s_iload_n rfl dc169_1.2.1.2 ?_
  refine am_s_iconst am_cc3 dc169_1.2.2.1 ?_
  refine am_s_ic_ne dc169_1.2.2.2 rfl (fun c1 => ?_) (fun c1 => ?_)
  · refine am_s_iconst am_cc0 dc169_2.1.2.1 ?_
    exact am_s_virtual true dc169_2.1.2.2 rfl (by decide) rfl rfl rfl ((vi_f q c1))
  · refine am_s_iconst am_cc1 dc169_2.1.1.1 ?_
    refine am_s_goto rfl dc169_2.1.1.2 ?_
    exact am_s_virtual true dc169_2.1.2.2 rfl (by decide) rfl rfl rfl ((vi_t q (Decidable.not_not.mp c1)))
theorem v169_31 {sc : Option (Nat × (Nat → Int32))} {d k n : Nat} {P : am_O → Prop} {I : am_I} {J : am_J} {Pf : am_R} (hp : am_PF Pf) {l1 : Option Value} {l2 : Option Value} {x3 : Int32} {l4 : Option Value} {s0 : Int32} (q : (if x3 = 0 then (P (.inl (some (.int (I 140 1))), (am_SH, I, J, Pf), k, n)) else (if x3 = 1 then (am_mth d 181 [.ref 0] (am_SH, I, J, Pf) (am_af sc d 169 69 [some (.ref 0), l1, l2, some (.int x3), some (.int s0)] [.ref 0] [] (am_SH, I, J, Pf) k n true P)) else (P (.inl (some (.int s0)), (am_SH, I, J, Pf), k, n))))) : am_go sc d 169 (31, [some (.ref 0), l1, l2, some (.int x3), l4], [.int s0], (am_SH, I, J, Pf), k, n) P := by
  refine am_s_istore (ls' := [some (.ref 0), l1, l2, some (.int x3), some (.int s0)]) rfl rfl dc169_2.2.1.1 ?_
  refine am_s_iload_n rfl dc169_2.2.1.2 ?_
  by_cases c1 : x3 = 0
  · refine am_s_lsw (o := 26) dc169_2.2.2.1 (by decide) (by simp only [c1]; decide) rfl ?_
    refine am_s_aload_n rfl dc169_2.2.2.2 ?_
    refine am_s_getR (r := 140) dc169_3.1.1.1 rfl rfl rfl (hp _ _ _ rfl) ?_
    refine am_x_getI (x := I 140 1) dc169_3.1.1.2 rfl rfl (Or.inl rfl) rfl ?_
    exact am_s_ireturn dc169_3.1.2.1 rfl ((vi_t q c1))
  by_cases c2 : x3 = 1
  · refine am_s_lsw (o := 34) dc169_2.2.2.1 (by decide) (by simp only [c2]; decide) rfl ?_
    refine am_s_aload_n rfl dc169_3.1.2.2 ?_
    exact am_s_virtual true dc169_3.2.1.1 rfl (by decide) rfl rfl rfl ((vi_t (vi_f q c1) c2))
  refine am_s_lsw dc169_2.2.2.1 (by decide) (o := 39) (by have e1 := sw_n c1 (i := 0) (by decide); have e2 := sw_n c2 (i := 1) (by decide); show Op.lookupswitch.offset [(0, 26), (1, 34)] 39 _ = _; simp only [Op.lookupswitch.offset, if_neg (Ne.symm e1), if_neg (Ne.symm e2)]) rfl ?_
  refine am_s_iload rfl dc169_3.2.2.1 ?_
  exact am_s_ireturn dc169_3.2.2.2 rfl ((vi_f (vi_f q c1) c2))
theorem v169_72 {sc : Option (Nat × (Nat → Int32))} {d k n : Nat} {P : am_O → Prop} {I : am_I} {J : am_J} {Pf : am_R} (hp : am_PF Pf) {l0 : Option Value} {l1 : Option Value} {l2 : Option Value} {l3 : Option Value} {l4 : Option Value} {s0 : Int32} (q : (P (.inl (some (.int s0)), (am_SH, I, J, Pf), k, n))) : am_go sc d 169 (72, [l0, l1, l2, l3, l4], [.int s0], (am_SH, I, J, Pf), k, n) P := by
  exact am_s_ireturn dc169_3.2.1.2 rfl (q)
-- span (IIIII)I
theorem v170_0 {sc : Option (Nat × (Nat → Int32))} {d k n : Nat} {P : am_O → Prop} {I : am_I} {J : am_J} {Pf : am_R} (hp : am_PF Pf) {x1 : Int32} {x2 : Int32} {x3 : Int32} {x4 : Int32} {x5 : Int32} {l6 : Option Value} {l7 : Option Value} {l8 : Option Value} {l9 : Option Value} (q : (am_mth d 176 [.ref 0, .int x2, .int 1, .int 4] (am_SH, I, J, Pf) (am_af sc d 170 4 [some (.ref 0), some (.int x1), some (.int x2), some (.int x3), some (.int x4), some (.int x5), l6, l7, l8, l9] [.int 4, .int 1, .int x2, .ref 0] [] (am_SH, I, J, Pf) k n true P))) : am_go sc d 170 (0, [some (.ref 0), some (.int x1), some (.int x2), some (.int x3), some (.int x4), some (.int x5), l6, l7, l8, l9], [], (am_SH, I, J, Pf), k, n) P := by
  refine am_s_aload_n rfl dc170_0.1.1.1 ?_
  refine am_s_iload_n rfl dc170_0.1.1.2 ?_
  refine am_s_iconst am_cc1 dc170_0.1.2.1 ?_
  refine am_s_iconst am_cc4 dc170_0.1.2.2 ?_
  exact am_s_virtual true dc170_0.2.1.1 rfl (by decide) rfl rfl rfl (q)
theorem v170_42 {sc : Option (Nat × (Nat → Int32))} {d k n : Nat} {P : am_O → Prop} {I : am_I} {J : am_J} {Pf : am_R} (hp : am_PF Pf) {x1 : Int32} {x2 : Int32} {x3 : Int32} {x4 : Int32} {x5 : Int32} {x6 : Int32} {x7 : Int32} {x8 : Int32} {x9 : Int32} (q : (if x2 ≤ x9 then (if x4 = 2 then (P (.inl (some (.int x8)), (am_SH, I, J, Pf), k, n)) else (if x4 = 0 then (P (.inl (some (.int x6)), (am_SH, I, J, Pf), k, n)) else (P (.inl (some (.int x7)), (am_SH, I, J, Pf), k, n)))) else (am_mth d 183 [.ref 0, .int (x1 + x9), .int x3, .int 0] (am_SH, I, J, Pf) (am_af sc d 170 55 [some (.ref 0), some (.int x1), some (.int x2), some (.int x3), some (.int x4), some (.int x5), some (.int x6), some (.int x7), some (.int x8), some (.int x9)] [.int 0, .int x3, .int (x1 + x9), .ref 0] [] (am_SH, I, J, Pf) k n true P)))) : am_go sc d 170 (42, [some (.ref 0), some (.int x1), some (.int x2), some (.int x3), some (.int x4), some (.int x5), some (.int x6), some (.int x7), some (.int x8), some (.int x9)], [], (am_SH, I, J, Pf), k, n) P := by
  refine am_s_iload rfl dc170_3.1.2.1 ?_
  refine am_s_iload_n rfl dc170_3.1.2.2 ?_
  refine am_s_ic_ge dc170_3.2.1.1 rfl (fun c1 => ?_) (fun c1 => ?_)
  · refine am_s_iload rfl dc170_7.2.2.2 ?_
    refine am_s_iconst am_cc2 dc170_8.1.1.1 ?_
    refine am_s_ic_ne dc170_8.1.1.2 rfl (fun c2 => ?_) (fun c2 => ?_)
    · refine am_s_iload rfl dc170_8.2.1.1 ?_
      refine am_s_if_ne dc170_8.2.1.2 rfl (fun c3 => ?_) (fun c3 => ?_)
      · refine am_s_iload rfl dc170_9.1 ?_
        exact am_s_ireturn dc170_9.2 rfl ((vi_f (vi_f (vi_t q c1) c2) c3))
      · refine am_s_iload rfl dc170_8.2.2.1 ?_
        refine am_s_goto rfl dc170_8.2.2.2 ?_
        exact am_s_ireturn dc170_9.2 rfl ((vi_t (vi_f (vi_t q c1) c2) (Decidable.not_not.mp c3)))
    · refine am_s_iload rfl dc170_8.1.2.1 ?_
      exact am_s_ireturn dc170_8.1.2.2 rfl ((vi_t (vi_t q c1) (Decidable.not_not.mp c2)))
  · refine am_s_aload_n rfl dc170_3.2.1.2 ?_
    refine am_s_iload_n rfl dc170_3.2.2.1 ?_
    refine am_s_iload rfl dc170_3.2.2.2 ?_
    refine am_s_iadd dc170_4.1.1.1 ?_
    refine am_s_iload_n rfl dc170_4.1.1.2 ?_
    refine am_s_iconst am_cc0 dc170_4.1.2.1 ?_
    exact am_s_virtual true dc170_4.1.2.2 rfl (by decide) rfl rfl rfl ((vi_f q c1))
theorem v170_7 {sc : Option (Nat × (Nat → Int32))} {d k n : Nat} {P : am_O → Prop} {I : am_I} {J : am_J} {Pf : am_R} (hp : am_PF Pf) {x1 : Int32} {x2 : Int32} {x3 : Int32} {x4 : Int32} {x5 : Int32} {l6 : Option Value} {l7 : Option Value} {l8 : Option Value} {l9 : Option Value} (q : (am_mth d 176 [.ref 0, .int x3, .int 1, .int 24] (am_SH, I, J, Pf) (am_af sc d 170 12 [some (.ref 0), some (.int x1), some (.int x2), some (.int x3), some (.int x4), some (.int x5), l6, l7, l8, l9] [.int 24, .int 1, .int x3, .ref 0] [] (am_SH, I, J, Pf) k n true P))) : am_go sc d 170 (7, [some (.ref 0), some (.int x1), some (.int x2), some (.int x3), some (.int x4), some (.int x5), l6, l7, l8, l9], [], (am_SH, I, J, Pf), k, n) P := by
  refine am_s_aload_n rfl dc170_0.2.1.2 ?_
  refine am_s_iload_n rfl dc170_0.2.2.1 ?_
  refine am_s_iconst am_cc1 dc170_0.2.2.2 ?_
  refine am_s_bipush am_cb24 dc170_1.1.1.1 ?_
  exact am_s_virtual true dc170_1.1.1.2 rfl (by decide) rfl rfl rfl (q)
theorem v170_58 {sc : Option (Nat × (Nat → Int32))} {d k n : Nat} {P : am_O → Prop} {I : am_I} {J : am_J} {Pf : am_R} (hp : am_PF Pf) {x1 : Int32} {x2 : Int32} {x3 : Int32} {x4 : Int32} {x5 : Int32} {x6 : Int32} {x7 : Int32} {x8 : Int32} {x9 : Int32} {s0 : Int32} (q : (if (I 140 1) < x6 then (if x7 < (I 140 1) then (if x4 = 2 then (am_mth (d + 1) 181 [.ref 0] (am_SH, I, J, Pf) (am_af sc (d + 1) 170 96 [some (.ref 0), some (.int x1), some (.int x2), some (.int x3), some (.int x4), some (.int x5), some (.int (I 140 1)), some (.int (I 140 1)), some (.int x8), some (.int x9)] [.ref 0, .int x8] [.int x8] (am_SH, I, J, Pf) k n true P)) else (am_go sc (d + 1) 170 (42, [some (.ref 0), some (.int x1), some (.int x2), some (.int x3), some (.int x4), some (.int x5), some (.int (I 140 1)), some (.int (I 140 1)), some (.int x8), some (.int (x9 + 1))], [], (am_SH, I, J, Pf), k, n) P)) else (if x4 = 2 then (am_mth (d + 1) 181 [.ref 0] (am_SH, I, J, Pf) (am_af sc (d + 1) 170 96 [some (.ref 0), some (.int x1), some (.int x2), some (.int x3), some (.int x4), some (.int x5), some (.int (I 140 1)), some (.int x7), some (.int x8), some (.int x9)] [.ref 0, .int x8] [.int x8] (am_SH, I, J, Pf) k n true P)) else (am_go sc (d + 1) 170 (42, [some (.ref 0), some (.int x1), some (.int x2), some (.int x3), some (.int x4), some (.int x5), some (.int (I 140 1)), some (.int x7), some (.int x8), some (.int (x9 + 1))], [], (am_SH, I, J, Pf), k, n) P))) else (if x7 < (I 140 1) then (if x4 = 2 then (am_mth (d + 1) 181 [.ref 0] (am_SH, I, J, Pf) (am_af sc (d + 1) 170 96 [some (.ref 0), some (.int x1), some (.int x2), some (.int x3), some (.int x4), some (.int x5), some (.int x6), some (.int (I 140 1)), some (.int x8), some (.int x9)] [.ref 0, .int x8] [.int x8] (am_SH, I, J, Pf) k n true P)) else (am_go sc (d + 1) 170 (42, [some (.ref 0), some (.int x1), some (.int x2), some (.int x3), some (.int x4), some (.int x5), some (.int x6), some (.int (I 140 1)), some (.int x8), some (.int (x9 + 1))], [], (am_SH, I, J, Pf), k, n) P)) else (if x4 = 2 then (am_mth (d + 1) 181 [.ref 0] (am_SH, I, J, Pf) (am_af sc (d + 1) 170 96 [some (.ref 0), some (.int x1), some (.int x2), some (.int x3), some (.int x4), some (.int x5), some (.int x6), some (.int x7), some (.int x8), some (.int x9)] [.ref 0, .int x8] [.int x8] (am_SH, I, J, Pf) k n true P)) else (am_go sc (d + 1) 170 (42, [some (.ref 0), some (.int x1), some (.int x2), some (.int x3), some (.int x4), some (.int x5), some (.int x6), some (.int x7), some (.int x8), some (.int (x9 + 1))], [], (am_SH, I, J, Pf), k, n) P))))) : am_go sc (d + 1) 170 (58, [some (.ref 0), some (.int x1), some (.int x2), some (.int x3), some (.int x4), some (.int x5), some (.int x6), some (.int x7), some (.int x8), some (.int x9)], [.int s0], (am_SH, I, J, Pf), k, n) P := by
  refine am_s_pop rfl dc170_4.2.1.1 ?_
  refine am_s_iload rfl dc170_4.2.1.2 ?_
  refine am_s_aload_n rfl dc170_4.2.2.1 ?_
  refine am_s_getR (r := 140) dc170_4.2.2.2 rfl rfl rfl (hp _ _ _ rfl) ?_
  refine am_x_getI (x := I 140 1) dc170_5.1.1.1 rfl rfl (Or.inl rfl) rfl ?_
  refine am_s_static dc170_5.1.1.2 rfl rfl rfl (am_mth_of rfl rfl ?_)
  refine am_s_iload_n rfl dc330_0.1.1 ?_
  refine am_s_iload_n rfl dc330_0.1.2.1 ?_
  refine am_s_ic_gt dc330_0.1.2.2 rfl (fun c1 => ?_) (fun c1 => ?_)
  · refine am_s_iload_n rfl dc330_0.2.2.1 ?_
    refine am_s_ireturn dc330_0.2.2.2 rfl (am_bkI ?_)
    refine am_s_istore (ls' := [some (.ref 0), some (.int x1), some (.int x2), some (.int x3), some (.int x4), some (.int x5), some (.int (I 140 1)), some (.int x7), some (.int x8), some (.int x9)]) rfl rfl dc170_5.1.2.1 ?_
    refine am_s_iload rfl dc170_5.1.2.2 ?_
    refine am_s_aload_n rfl dc170_5.2.1.1 ?_
    refine am_s_getR (r := 140) dc170_5.2.1.2 rfl rfl rfl (hp _ _ _ rfl) ?_
    refine am_x_getI (x := I 140 1) dc170_5.2.2.1 rfl rfl (Or.inl rfl) rfl ?_
    refine am_s_static dc170_5.2.2.2 rfl rfl rfl (am_mth_of rfl rfl ?_)
    refine am_s_iload_n rfl dc329_0.1.1 ?_
    refine am_s_iload_n rfl dc329_0.1.2.1 ?_
    refine am_s_ic_lt dc329_0.1.2.2 rfl (fun c2 => ?_) (fun c2 => ?_)
    · refine am_s_iload_n rfl dc329_0.2.2.1 ?_
      refine am_s_ireturn dc329_0.2.2.2 rfl (am_bkI ?_)
      refine am_s_istore (ls' := [some (.ref 0), some (.int x1), some (.int x2), some (.int x3), some (.int x4), some (.int x5), some (.int (I 140 1)), some (.int (I 140 1)), some (.int x8), some (.int x9)]) rfl rfl dc170_6.1.1.1 ?_
      refine am_s_iload rfl dc170_6.1.1.2 ?_
      refine am_s_iconst am_cc2 dc170_6.1.2.1 ?_
      refine am_s_ic_ne dc170_6.1.2.2 rfl (fun c3 => ?_) (fun c3 => ?_)
      · refine am_s_iinc (ls' := [some (.ref 0), some (.int x1), some (.int x2), some (.int x3), some (.int x4), some (.int x5), some (.int (I 140 1)), some (.int (I 140 1)), some (.int x8), some (.int (x9 + 1))]) am_cc1 rfl rfl dc170_7.2.1.2 ?_
        refine am_s_goto rfl dc170_7.2.2.1 ?_
        exact (vi_f (vi_t (vi_t q c1) c2) c3)
      · refine am_s_iload rfl dc170_6.2.1.1 ?_
        refine am_s_aload_n rfl dc170_6.2.1.2 ?_
        exact am_s_virtual true dc170_6.2.2.1 rfl (by decide) rfl rfl rfl ((vi_t (vi_t (vi_t q c1) c2) (Decidable.not_not.mp c3)))
    · refine am_s_iload_n rfl dc329_0.2.1.1 ?_
      refine am_s_goto rfl dc329_0.2.1.2 ?_
      refine am_s_ireturn dc329_0.2.2.2 rfl (am_bkI ?_)
      refine am_s_istore (ls' := [some (.ref 0), some (.int x1), some (.int x2), some (.int x3), some (.int x4), some (.int x5), some (.int (I 140 1)), some (.int x7), some (.int x8), some (.int x9)]) rfl rfl dc170_6.1.1.1 ?_
      refine am_s_iload rfl dc170_6.1.1.2 ?_
      refine am_s_iconst am_cc2 dc170_6.1.2.1 ?_
      refine am_s_ic_ne dc170_6.1.2.2 rfl (fun c3 => ?_) (fun c3 => ?_)
      · refine am_s_iinc (ls' := [some (.ref 0), some (.int x1), some (.int x2), some (.int x3), some (.int x4), some (.int x5), some (.int (I 140 1)), some (.int x7), some (.int x8), some (.int (x9 + 1))]) am_cc1 rfl rfl dc170_7.2.1.2 ?_
        refine am_s_goto rfl dc170_7.2.2.1 ?_
        exact (vi_f (vi_f (vi_t q c1) c2) c3)
      · refine am_s_iload rfl dc170_6.2.1.1 ?_
        refine am_s_aload_n rfl dc170_6.2.1.2 ?_
        exact am_s_virtual true dc170_6.2.2.1 rfl (by decide) rfl rfl rfl ((vi_t (vi_f (vi_t q c1) c2) (Decidable.not_not.mp c3)))
  · refine am_s_iload_n rfl dc330_0.2.1.1 ?_
    refine am_s_goto rfl dc330_0.2.1.2 ?_
    refine am_s_ireturn dc330_0.2.2.2 rfl (am_bkI ?_)
    refine am_s_istore (ls' := [some (.ref 0), some (.int x1), some (.int x2), some (.int x3), some (.int x4), some (.int x5), some (.int x6), some (.int x7), some (.int x8), some (.int x9)]) rfl rfl dc170_5.1.2.1 ?_
    refine am_s_iload rfl dc170_5.1.2.2 ?_
    refine am_s_aload_n rfl dc170_5.2.1.1 ?_
    refine am_s_getR (r := 140) dc170_5.2.1.2 rfl rfl rfl (hp _ _ _ rfl) ?_
    refine am_x_getI (x := I 140 1) dc170_5.2.2.1 rfl rfl (Or.inl rfl) rfl ?_
    refine am_s_static dc170_5.2.2.2 rfl rfl rfl (am_mth_of rfl rfl ?_)
    refine am_s_iload_n rfl dc329_0.1.1 ?_
    refine am_s_iload_n rfl dc329_0.1.2.1 ?_
    refine am_s_ic_lt dc329_0.1.2.2 rfl (fun c2 => ?_) (fun c2 => ?_)
    · refine am_s_iload_n rfl dc329_0.2.2.1 ?_
      refine am_s_ireturn dc329_0.2.2.2 rfl (am_bkI ?_)
      refine am_s_istore (ls' := [some (.ref 0), some (.int x1), some (.int x2), some (.int x3), some (.int x4), some (.int x5), some (.int x6), some (.int (I 140 1)), some (.int x8), some (.int x9)]) rfl rfl dc170_6.1.1.1 ?_
      refine am_s_iload rfl dc170_6.1.1.2 ?_
      refine am_s_iconst am_cc2 dc170_6.1.2.1 ?_
      refine am_s_ic_ne dc170_6.1.2.2 rfl (fun c3 => ?_) (fun c3 => ?_)
      · refine am_s_iinc (ls' := [some (.ref 0), some (.int x1), some (.int x2), some (.int x3), some (.int x4), some (.int x5), some (.int x6), some (.int (I 140 1)), some (.int x8), some (.int (x9 + 1))]) am_cc1 rfl rfl dc170_7.2.1.2 ?_
        refine am_s_goto rfl dc170_7.2.2.1 ?_
        exact (vi_f (vi_t (vi_f q c1) c2) c3)
      · refine am_s_iload rfl dc170_6.2.1.1 ?_
        refine am_s_aload_n rfl dc170_6.2.1.2 ?_
        exact am_s_virtual true dc170_6.2.2.1 rfl (by decide) rfl rfl rfl ((vi_t (vi_t (vi_f q c1) c2) (Decidable.not_not.mp c3)))
    · refine am_s_iload_n rfl dc329_0.2.1.1 ?_
      refine am_s_goto rfl dc329_0.2.1.2 ?_
      refine am_s_ireturn dc329_0.2.2.2 rfl (am_bkI ?_)
      refine am_s_istore (ls' := [some (.ref 0), some (.int x1), some (.int x2), some (.int x3), some (.int x4), some (.int x5), some (.int x6), some (.int x7), some (.int x8), some (.int x9)]) rfl rfl dc170_6.1.1.1 ?_
      refine am_s_iload rfl dc170_6.1.1.2 ?_
      refine am_s_iconst am_cc2 dc170_6.1.2.1 ?_
      refine am_s_ic_ne dc170_6.1.2.2 rfl (fun c3 => ?_) (fun c3 => ?_)
      · refine am_s_iinc (ls' := [some (.ref 0), some (.int x1), some (.int x2), some (.int x3), some (.int x4), some (.int x5), some (.int x6), some (.int x7), some (.int x8), some (.int (x9 + 1))]) am_cc1 rfl rfl dc170_7.2.1.2 ?_
        refine am_s_goto rfl dc170_7.2.2.1 ?_
        exact (vi_f (vi_f (vi_f q c1) c2) c3)
      · refine am_s_iload rfl dc170_6.2.1.1 ?_
        refine am_s_aload_n rfl dc170_6.2.1.2 ?_
        exact am_s_virtual true dc170_6.2.2.1 rfl (by decide) rfl rfl rfl ((vi_t (vi_f (vi_f q c1) c2) (Decidable.not_not.mp c3)))
theorem v170_15 {sc : Option (Nat × (Nat → Int32))} {d k n : Nat} {P : am_O → Prop} {I : am_I} {J : am_J} {Pf : am_R} (hp : am_PF Pf) {x1 : Int32} {x2 : Int32} {x3 : Int32} {x4 : Int32} {x5 : Int32} {l6 : Option Value} {l7 : Option Value} {l8 : Option Value} {l9 : Option Value} (q : (am_mth d 176 [.ref 0, .int x4, .int 0, .int 2] (am_SH, I, J, Pf) (am_af sc d 170 20 [some (.ref 0), some (.int x1), some (.int x2), some (.int x3), some (.int x4), some (.int x5), l6, l7, l8, l9] [.int 2, .int 0, .int x4, .ref 0] [] (am_SH, I, J, Pf) k n true P))) : am_go sc d 170 (15, [some (.ref 0), some (.int x1), some (.int x2), some (.int x3), some (.int x4), some (.int x5), l6, l7, l8, l9], [], (am_SH, I, J, Pf), k, n) P := by
  refine am_s_aload_n rfl dc170_1.1.2.1 ?_
  refine am_s_iload rfl dc170_1.1.2.2 ?_
  refine am_s_iconst am_cc0 dc170_1.2.1.1 ?_
  refine am_s_iconst am_cc2 dc170_1.2.1.2 ?_
  exact am_s_virtual true dc170_1.2.2.1 rfl (by decide) rfl rfl rfl (q)
theorem v170_99 {sc : Option (Nat × (Nat → Int32))} {d k n : Nat} {P : am_O → Prop} {I : am_I} {J : am_J} {Pf : am_R} (hp : am_PF Pf) {x1 : Int32} {x2 : Int32} {x3 : Int32} {x4 : Int32} {x5 : Int32} {x6 : Int32} {x7 : Int32} {l8 : Option Value} {x9 : Int32} {s0 : Int32} {s1 : Int32} (q : (am_go sc d 170 (42, [some (.ref 0), some (.int x1), some (.int x2), some (.int x3), some (.int x4), some (.int x5), some (.int x6), some (.int x7), some (.int (s0 + ((UInt32.toInt32 (Int32.toUInt32 s1 >>> (Int32.toUInt32 x5 &&& Int32.toUInt32 31))) &&& 1))), some (.int (x9 + 1))], [], (am_SH, I, J, Pf), k, n) P)) : am_go sc d 170 (99, [some (.ref 0), some (.int x1), some (.int x2), some (.int x3), some (.int x4), some (.int x5), some (.int x6), some (.int x7), l8, some (.int x9)], [.int s1, .int s0], (am_SH, I, J, Pf), k, n) P := by
  refine am_s_iload rfl dc170_6.2.2.2 ?_
  refine am_s_iushr dc170_7.1.1.1 ?_
  refine am_s_iconst am_cc1 dc170_7.1.1.2 ?_
  refine am_s_iand dc170_7.1.2.1 ?_
  refine am_s_iadd dc170_7.1.2.2 ?_
  refine am_s_istore (ls' := [some (.ref 0), some (.int x1), some (.int x2), some (.int x3), some (.int x4), some (.int x5), some (.int x6), some (.int x7), some (.int (s0 + ((UInt32.toInt32 (Int32.toUInt32 s1 >>> (Int32.toUInt32 x5 &&& Int32.toUInt32 31))) &&& 1))), some (.int x9)]) rfl rfl dc170_7.2.1.1 ?_
  refine am_s_iinc (ls' := [some (.ref 0), some (.int x1), some (.int x2), some (.int x3), some (.int x4), some (.int x5), some (.int x6), some (.int x7), some (.int (s0 + ((UInt32.toInt32 (Int32.toUInt32 s1 >>> (Int32.toUInt32 x5 &&& Int32.toUInt32 31))) &&& 1))), some (.int (x9 + 1))]) am_cc1 rfl rfl dc170_7.2.1.2 ?_
  refine am_s_goto rfl dc170_7.2.2.1 ?_
  exact q
theorem v170_23 {sc : Option (Nat × (Nat → Int32))} {d k n : Nat} {P : am_O → Prop} {I : am_I} {J : am_J} {Pf : am_R} (hp : am_PF Pf) {x1 : Int32} {x2 : Int32} {x3 : Int32} {x4 : Int32} {x5 : Int32} {l6 : Option Value} {l7 : Option Value} {l8 : Option Value} {l9 : Option Value} (q : (am_mth d 177 [.ref 0, .int x5] (am_SH, I, J, Pf) (am_af sc d 170 26 [some (.ref 0), some (.int x1), some (.int x2), some (.int x3), some (.int x4), some (.int x5), l6, l7, l8, l9] [.int x5, .ref 0] [] (am_SH, I, J, Pf) k n true P))) : am_go sc d 170 (23, [some (.ref 0), some (.int x1), some (.int x2), some (.int x3), some (.int x4), some (.int x5), l6, l7, l8, l9], [], (am_SH, I, J, Pf), k, n) P := by
  refine am_s_aload_n rfl dc170_1.2.2.2 ?_
  refine am_s_iload rfl dc170_2.1.1.1 ?_
  exact am_s_virtual true dc170_2.1.1.2 rfl (by decide) rfl rfl rfl (q)
theorem v170_29 {sc : Option (Nat × (Nat → Int32))} {d k n : Nat} {P : am_O → Prop} {I : am_I} {J : am_J} {Pf : am_R} (hp : am_PF Pf) {x1 : Int32} {x2 : Int32} {x3 : Int32} {x4 : Int32} {x5 : Int32} {l6 : Option Value} {l7 : Option Value} {l8 : Option Value} {l9 : Option Value} (q : (am_go sc d 170 (42, [some (.ref 0), some (.int x1), some (.int x2), some (.int x3), some (.int x4), some (.int x5), some (.int 24), some (.int 0), some (.int 0), some (.int 0)], [], (am_SH, I, J, Pf), k, n) P)) : am_go sc d 170 (29, [some (.ref 0), some (.int x1), some (.int x2), some (.int x3), some (.int x4), some (.int x5), l6, l7, l8, l9], [], (am_SH, I, J, Pf), k, n) P := by
  refine am_s_bipush am_cb24 dc170_2.1.2.1 ?_
  refine am_s_istore (ls' := [some (.ref 0), some (.int x1), some (.int x2), some (.int x3), some (.int x4), some (.int x5), some (.int 24), l7, l8, l9]) rfl rfl dc170_2.1.2.2 ?_
  refine am_s_iconst am_cc0 dc170_2.2.1.1 ?_
  refine am_s_istore (ls' := [some (.ref 0), some (.int x1), some (.int x2), some (.int x3), some (.int x4), some (.int x5), some (.int 24), some (.int 0), l8, l9]) rfl rfl dc170_2.2.1.2 ?_
  refine am_s_iconst am_cc0 dc170_2.2.2.1 ?_
  refine am_s_istore (ls' := [some (.ref 0), some (.int x1), some (.int x2), some (.int x3), some (.int x4), some (.int x5), some (.int 24), some (.int 0), some (.int 0), l9]) rfl rfl dc170_2.2.2.2 ?_
  refine am_s_iconst am_cc0 dc170_3.1.1.1 ?_
  refine am_s_istore (ls' := [some (.ref 0), some (.int x1), some (.int x2), some (.int x3), some (.int x4), some (.int x5), some (.int 24), some (.int 0), some (.int 0), some (.int 0)]) rfl rfl dc170_3.1.1.2 ?_
  exact q
-- image ()I
theorem v171_0 {sc : Option (Nat × (Nat → Int32))} {d k n : Nat} {P : am_O → Prop} {I : am_I} {J : am_J} {Pf : am_R} (hp : am_PF Pf)  (q : (if (I 0 9) < 3 then (am_in (I 0 9) 3 = true) ∧ ∃ r18x1 : Nat, (Pf 111 (Int32.toNatClampNeg (I 0 9)) = some r18x1) ∧ (am_SH[r18x1]? = some (.inl 5)) ∧ (am_mth d 73 [.ref r18x1, .ref 108] (am_SH, I, J, Pf) (am_af sc d 171 23 [some (.ref 0)] [.ref 108, .ref r18x1] [] (am_SH, I, J, Pf) k n false P)) else (P (.inl (some (.int (-1))), (am_SH, I, J, Pf), k, n)))) : am_go sc d 171 (0, [some (.ref 0)], [], (am_SH, I, J, Pf), k, n) P := by
  refine am_s_aload_n rfl dc171_0.1.1.1 ?_
  refine am_x_getI (x := I 0 9) dc171_0.1.1.2 rfl rfl (Or.inl rfl) rfl ?_
  refine am_s_iconst am_cc3 dc171_0.1.2.1 ?_
  refine am_s_ic_lt dc171_0.1.2.2 rfl (fun c1 => ?_) (fun c1 => ?_)
  · refine am_s_aload_n rfl dc171_0.2.2.1 ?_
    refine am_s_getR (r := 111) dc171_0.2.2.2 rfl rfl rfl (hp _ _ _ rfl) ?_
    refine am_s_aload_n rfl dc171_1.1.1.1 ?_
    refine am_x_getI (x := I 0 9) dc171_1.1.1.2 rfl rfl (Or.inl rfl) rfl ?_
    obtain ⟨r18x1, qx1⟩ := (vi_t q c1).2
    refine am_s_aaload (r := r18x1) dc171_1.1.2.1 rfl rfl ((vi_t q c1).1) (qx1.1) ?_
    refine am_s_aload_n rfl dc171_1.1.2.2 ?_
    refine am_s_getR (r := 108) dc171_1.2.1.1 rfl rfl rfl (hp _ _ _ rfl) ?_
    exact am_s_virtual false dc171_1.2.1.2 rfl (by decide) rfl (qx1.2.1) rfl (qx1.2.2)
  · refine am_s_iconst am_ccm1 dc171_0.2.1.1 ?_
    exact am_s_ireturn dc171_0.2.1.2 rfl ((vi_f q c1))
theorem v171_26 {sc : Option (Nat × (Nat → Int32))} {d k n : Nat} {P : am_O → Prop} {I : am_I} {J : am_J} {Pf : am_R} (hp : am_PF Pf)  (q : (am_in (I 0 9) 3 = true) ∧ ∃ r34x1 : Nat, (Pf 111 (Int32.toNatClampNeg (I 0 9)) = some r34x1) ∧ (am_SH[r34x1]? = some (.inl 5)) ∧ (am_mth d 71 [.ref r34x1, .ref 135] (am_SH, I, J, Pf) (am_af sc d 171 39 [some (.ref 0)] [.ref 135, .ref r34x1] [] (am_SH, I, J, Pf) k n false P))) : am_go sc d 171 (26, [some (.ref 0)], [], (am_SH, I, J, Pf), k, n) P := by
  refine am_s_aload_n rfl dc171_1.2.2.1 ?_
  refine am_s_getR (r := 111) dc171_1.2.2.2 rfl rfl rfl (hp _ _ _ rfl) ?_
  refine am_s_aload_n rfl dc171_2.1.1.1 ?_
  refine am_x_getI (x := I 0 9) dc171_2.1.1.2 rfl rfl (Or.inl rfl) rfl ?_
  obtain ⟨r34x1, qx1⟩ := q.2
  refine am_s_aaload (r := r34x1) dc171_2.1.2.1 rfl rfl (q.1) (qx1.1) ?_
  refine am_s_aload_n rfl dc171_2.1.2.2 ?_
  refine am_s_getR (r := 135) dc171_2.2.1.1 rfl rfl rfl (hp _ _ _ rfl) ?_
  exact am_s_virtual false dc171_2.2.1.2 rfl (by decide) rfl (qx1.2.1) rfl (qx1.2.2)
theorem v171_42 {sc : Option (Nat × (Nat → Int32))} {d k n : Nat} {P : am_O → Prop} {I : am_I} {J : am_J} {Pf : am_R} (hp : am_PF Pf)  (q : (P (.inl (some (.int ((I 0 9) + 1))), (am_SH, am_u I 0 9 ((I 0 9) + 1), J, Pf), k, n))) : am_go sc d 171 (42, [some (.ref 0)], [], (am_SH, I, J, Pf), k, n) P := by
  refine am_s_aload_n rfl dc171_2.2.2.1 ?_
  refine am_s_dup rfl dc171_2.2.2.2 ?_
  refine am_x_getI (x := I 0 9) dc171_3.1.1 rfl rfl (Or.inl rfl) rfl ?_
  refine am_s_iconst am_cc1 dc171_3.1.2.1 ?_
  refine am_s_iadd dc171_3.1.2.2 ?_
  refine am_s_putI dc171_3.2.1.1 rfl rfl rfl rfl ?_
  refine am_s_aload_n rfl dc171_3.2.1.2 ?_
  refine am_x_getI (x := (I 0 9) + 1) dc171_3.2.2.1 rfl rfl (Or.inl rfl) rfl ?_
  exact am_s_ireturn dc171_3.2.2.2 rfl (q)
-- restore ()I
theorem v172_0 {sc : Option (Nat × (Nat → Int32))} {d k n : Nat} {P : am_O → Prop} {I : am_I} {J : am_J} {Pf : am_R} (hp : am_PF Pf)  (q : (if (I 0 9) = 0 then (P (.inl (some (.int (-1))), (am_SH, I, J, Pf), k, n)) else (am_in ((I 0 9) - 1) 3 = true) ∧ ∃ r31x1 : Nat, (Pf 111 (Int32.toNatClampNeg ((I 0 9) - 1)) = some r31x1) ∧ (am_SH[r31x1]? = some (.inl 5)) ∧ (am_mth d 73 [.ref 108, .ref r31x1] (am_SH, am_u I 0 9 ((I 0 9) - 1), J, Pf) (am_af sc d 172 32 [some (.ref 0)] [.ref r31x1, .ref 108] [] (am_SH, am_u I 0 9 ((I 0 9) - 1), J, Pf) k n false P)))) : am_go sc d 172 (0, [some (.ref 0)], [], (am_SH, I, J, Pf), k, n) P := by
  refine am_s_aload_n rfl dc172_0.1.1.1 ?_
  refine am_x_getI (x := I 0 9) dc172_0.1.1.2 rfl rfl (Or.inl rfl) rfl ?_
  refine am_s_if_ne dc172_0.1.2.1 rfl (fun c1 => ?_) (fun c1 => ?_)
  · refine am_s_aload_n rfl dc172_0.2.1.2 ?_
    refine am_s_dup rfl dc172_0.2.2.1 ?_
    refine am_x_getI (x := I 0 9) dc172_0.2.2.2 rfl rfl (Or.inl rfl) rfl ?_
    refine am_s_iconst am_cc1 dc172_1.1.1.1 ?_
    refine am_s_isub dc172_1.1.1.2 ?_
    refine am_s_putI dc172_1.1.2.1 rfl rfl rfl rfl ?_
    refine am_s_aload_n rfl dc172_1.1.2.2 ?_
    refine am_s_getR (r := 108) dc172_1.2.1.1 rfl rfl rfl (hp _ _ _ rfl) ?_
    refine am_s_aload_n rfl dc172_1.2.1.2 ?_
    refine am_s_getR (r := 111) dc172_1.2.2.1 rfl rfl rfl (hp _ _ _ rfl) ?_
    refine am_s_aload_n rfl dc172_1.2.2.2 ?_
    refine am_x_getI (x := (I 0 9) - 1) dc172_2.1.1.1 rfl rfl (Or.inl rfl) rfl ?_
    obtain ⟨r31x1, qx1⟩ := (vi_f q c1).2
    refine am_s_aaload (r := r31x1) dc172_2.1.1.2 rfl rfl ((vi_f q c1).1) (qx1.1) ?_
    exact am_s_virtual false dc172_2.1.2.1 rfl (by decide) rfl rfl rfl (qx1.2.2)
  · refine am_s_iconst am_ccm1 dc172_0.1.2.2 ?_
    exact am_s_ireturn dc172_0.2.1.1 rfl ((vi_t q (Decidable.not_not.mp c1)))
theorem v172_35 {sc : Option (Nat × (Nat → Int32))} {d k n : Nat} {P : am_O → Prop} {I : am_I} {J : am_J} {Pf : am_R} (hp : am_PF Pf)  (q : (am_mth d 72 [.ref 108, .ref 135] (am_SH, I, J, Pf) (am_af sc d 172 43 [some (.ref 0)] [.ref 135, .ref 108] [] (am_SH, I, J, Pf) k n false P))) : am_go sc d 172 (35, [some (.ref 0)], [], (am_SH, I, J, Pf), k, n) P := by
  refine am_s_aload_n rfl dc172_2.1.2.2 ?_
  refine am_s_getR (r := 108) dc172_2.2.1.1 rfl rfl rfl (hp _ _ _ rfl) ?_
  refine am_s_aload_n rfl dc172_2.2.1.2 ?_
  refine am_s_getR (r := 135) dc172_2.2.2.1 rfl rfl rfl (hp _ _ _ rfl) ?_
  exact am_s_virtual false dc172_2.2.2.2 rfl (by decide) rfl rfl rfl (q)
theorem v172_46 {sc : Option (Nat × (Nat → Int32))} {d k n : Nat} {P : am_O → Prop} {I : am_I} {J : am_J} {Pf : am_R} (hp : am_PF Pf)  (q : (P (.inl (some (.int (I 0 9))), (am_SH, am_u (am_u I 0 16 0) 0 12 0, J, Pf), k, n))) : am_go sc (d + 1) 172 (46, [some (.ref 0)], [], (am_SH, I, J, Pf), k, n) P := by
  refine am_s_aload_n rfl dc172_3.1.1 ?_
  refine am_s_iconst am_cc0 dc172_3.1.2.1 ?_
  refine am_s_virtual true dc172_3.1.2.2 rfl (by decide) rfl rfl rfl (am_mth_of rfl rfl ?_)
  refine am_s_aload_n rfl dc179_0.1.1 ?_
  refine am_s_iload_n rfl dc179_0.1.2.1 ?_
  refine am_s_putI dc179_0.1.2.2 rfl rfl rfl rfl ?_
  refine am_s_aload_n rfl dc179_0.2.1.1 ?_
  refine am_s_iconst am_cc0 dc179_0.2.1.2 ?_
  refine am_s_putZ dc179_0.2.2.1 rfl rfl rfl rfl (by decide) ?_
  refine am_s_return dc179_0.2.2.2 rfl (am_bkV ?_)
  refine am_s_aload_n rfl dc172_3.2.1 ?_
  refine am_x_getI (x := I 0 9) dc172_3.2.2.1 rfl rfl (Or.inl rfl) rfl ?_
  exact am_s_ireturn dc172_3.2.2.2 rfl (q)
-- status (I)I
theorem v173_0 {sc : Option (Nat × (Nat → Int32))} {d k n : Nat} {P : am_O → Prop} {I : am_I} {J : am_J} {Pf : am_R} (hp : am_PF Pf) {x1 : Int32} (q : (if x1 = 0 then (P (.inl (some (.int (I 0 18))), (am_SH, I, J, Pf), k, n)) else (if x1 = 1 then (P (.inl (some (.int (I 0 19))), (am_SH, I, J, Pf), k, n)) else (P (.inl (some (.int (-1))), (am_SH, I, J, Pf), k, n))))) : am_go sc d 173 (0, [some (.ref 0), some (.int x1)], [], (am_SH, I, J, Pf), k, n) P := by
  refine am_s_iload_n rfl dc173_0.1.1.1 ?_
  refine am_s_if_ne dc173_0.1.1.2 rfl (fun c1 => ?_) (fun c1 => ?_)
  · refine am_s_iload_n rfl dc173_0.2.1.2 ?_
    refine am_s_iconst am_cc1 dc173_0.2.2.1 ?_
    refine am_s_ic_ne dc173_0.2.2.2 rfl (fun c2 => ?_) (fun c2 => ?_)
    · refine am_s_iconst am_ccm1 dc173_1.2.2.1 ?_
      exact am_s_ireturn dc173_1.2.2.2 rfl ((vi_f (vi_f q c1) c2))
    · refine am_s_aload_n rfl dc173_1.1.1 ?_
      refine am_x_getI (x := I 0 19) dc173_1.1.2 rfl rfl (Or.inl rfl) rfl ?_
      refine am_s_goto rfl dc173_1.2.1 ?_
      exact am_s_ireturn dc173_1.2.2.2 rfl ((vi_t (vi_f q c1) (Decidable.not_not.mp c2)))
  · refine am_s_aload_n rfl dc173_0.1.2.1 ?_
    refine am_x_getI (x := I 0 18) dc173_0.1.2.2 rfl rfl (Or.inl rfl) rfl ?_
    exact am_s_ireturn dc173_0.2.1.1 rfl ((vi_t q (Decidable.not_not.mp c1)))
-- count (I)I
theorem v174_0 {sc : Option (Nat × (Nat → Int32))} {d k n : Nat} {P : am_O → Prop} {I : am_I} {J : am_J} {Pf : am_R} (hp : am_PF Pf) {x1 : Int32} (q : (if x1 = 0 then (P (.inl (some (.int (I 0 9))), (am_SH, I, J, Pf), k, n)) else (if x1 = 1 then (P (.inl (some (.int (I 1 1))), (am_SH, I, J, Pf), k, n)) else (if x1 = 2 then (P (.inl (some (.int (I 108 2))), (am_SH, I, J, Pf), k, n)) else (P (.inl (some (.int (-1))), (am_SH, I, J, Pf), k, n)))))) : am_go sc d 174 (0, [some (.ref 0), some (.int x1)], [], (am_SH, I, J, Pf), k, n) P := by
  refine am_s_iload_n rfl dc174_0.1.1.1 ?_
  by_cases c1 : x1 = 0
  · refine am_s_tsw (v := 0) dc174_0.1.1.2 (by rw [c1]; decide) rfl rfl rfl ?_
    refine am_s_aload_n rfl dc174_0.1.2.1 ?_
    refine am_x_getI (x := I 0 9) dc174_0.1.2.2 rfl rfl (Or.inl rfl) rfl ?_
    exact am_s_ireturn dc174_0.2.1.1 rfl ((vi_t q c1))
  by_cases c2 : x1 = 1
  · refine am_s_tsw (v := 1) dc174_0.1.1.2 (by rw [c2]; decide) rfl rfl rfl ?_
    refine am_s_aload_n rfl dc174_0.2.1.2 ?_
    refine am_s_getR (r := 1) dc174_0.2.2.1 rfl rfl rfl (hp _ _ _ rfl) ?_
    refine am_x_getI (x := I 1 1) dc174_0.2.2.2 rfl rfl (Or.inl rfl) rfl ?_
    exact am_s_ireturn dc174_1.1.1 rfl ((vi_t (vi_f q c1) c2))
  by_cases c3 : x1 = 2
  · refine am_s_tsw (v := 2) dc174_0.1.1.2 (by rw [c3]; decide) rfl rfl rfl ?_
    refine am_s_aload_n rfl dc174_1.1.2.1 ?_
    refine am_s_getR (r := 108) dc174_1.1.2.2 rfl rfl rfl (hp _ _ _ rfl) ?_
    refine am_x_getI (x := I 108 2) dc174_1.2.1.1 rfl rfl (Or.inl rfl) rfl ?_
    exact am_s_ireturn dc174_1.2.1.2 rfl ((vi_t (vi_f (vi_f q c1) c2) c3))
  refine am_s_tswd dc174_0.1.1.2 (by have e1 := sw_n c1 (i := 0) (by decide); have e2 := sw_n c2 (i := 1) (by decide); have e3 := sw_n c3 (i := 2) (by decide); simp only [Bool.or_eq_true, decide_eq_true_eq]; omega) rfl ?_
  refine am_s_iconst am_ccm1 dc174_1.2.2.1 ?_
  exact am_s_ireturn dc174_1.2.2.2 rfl ((vi_f (vi_f (vi_f q c1) c2) c3))
-- needOne (II)V
theorem v175_0 {sc : Option (Nat × (Nat → Int32))} {d k n : Nat} {P : am_O → Prop} {I : am_I} {J : am_J} {Pf : am_R} (hp : am_PF Pf) {x1 : Int32} {x2 : Int32} (q : (if x1 < 0 then (am_go sc d 175 (10, [some (.ref 0), some (.int x1), some (.int x2)], [], (am_SH, I, J, Pf), k, n) P) else (if x2 ≤ x1 then (am_go sc d 175 (10, [some (.ref 0), some (.int x1), some (.int x2)], [], (am_SH, I, J, Pf), k, n) P) else (P (.inl none, (am_SH, I, J, Pf), k, n))))) : am_go sc d 175 (0, [some (.ref 0), some (.int x1), some (.int x2)], [], (am_SH, I, J, Pf), k, n) P := by
  refine am_s_iload_n rfl dc175_0.1.1.1 ?_
  refine am_s_if_lt dc175_0.1.1.2 rfl (fun c1 => ?_) (fun c1 => ?_)
  · exact (vi_t q c1)
  · refine am_s_iload_n rfl dc175_0.1.2.1 ?_
    refine am_s_iload_n rfl dc175_0.1.2.2 ?_
    refine am_s_ic_ge dc175_0.2.1.1 rfl (fun c2 => ?_) (fun c2 => ?_)
    · exact (vi_t (vi_f q c1) c2)
    · exact am_s_return dc175_0.2.1.2 rfl ((vi_f (vi_f q c1) c2))
theorem v175_10 {sc : Option (Nat × (Nat → Int32))} {d k n : Nat} {P : am_O → Prop} {I : am_I} {J : am_J} {Pf : am_R} (hp : am_PF Pf) {l1 : Option Value} {l2 : Option Value} (q : (am_go sc d 175 (20, [some (.ref 0), l1, l2], [], (am_SH, am_u I 0 18 ((I 0 18) + 1), J, Pf), k, n) P)) : am_go sc d 175 (10, [some (.ref 0), l1, l2], [], (am_SH, I, J, Pf), k, n) P := by
  refine am_s_aload_n rfl dc175_0.2.2.1 ?_
  refine am_s_dup rfl dc175_0.2.2.2 ?_
  refine am_x_getI (x := I 0 18) dc175_1.1.1.1 rfl rfl (Or.inl rfl) rfl ?_
  refine am_s_iconst am_cc1 dc175_1.1.1.2 ?_
  refine am_s_iadd dc175_1.1.2.1 ?_
  refine am_s_putI dc175_1.1.2.2 rfl rfl rfl rfl ?_
  exact q
-- needWithin (III)V
theorem v176_0 {sc : Option (Nat × (Nat → Int32))} {d k n : Nat} {P : am_O → Prop} {I : am_I} {J : am_J} {Pf : am_R} (hp : am_PF Pf) {x1 : Int32} {x2 : Int32} {x3 : Int32} (q : (if x1 < x2 then (am_go sc d 176 (11, [some (.ref 0), some (.int x1), some (.int x2), some (.int x3)], [], (am_SH, I, J, Pf), k, n) P) else (if x3 < x1 then (am_go sc d 176 (11, [some (.ref 0), some (.int x1), some (.int x2), some (.int x3)], [], (am_SH, I, J, Pf), k, n) P) else (P (.inl none, (am_SH, I, J, Pf), k, n))))) : am_go sc d 176 (0, [some (.ref 0), some (.int x1), some (.int x2), some (.int x3)], [], (am_SH, I, J, Pf), k, n) P := by
  refine am_s_iload_n rfl dc176_0.1.1.1 ?_
  refine am_s_iload_n rfl dc176_0.1.1.2 ?_
  refine am_s_ic_lt dc176_0.1.2.1 rfl (fun c1 => ?_) (fun c1 => ?_)
  · exact (vi_t q c1)
  · refine am_s_iload_n rfl dc176_0.1.2.2 ?_
    refine am_s_iload_n rfl dc176_0.2.1.1 ?_
    refine am_s_ic_gt dc176_0.2.1.2 rfl (fun c2 => ?_) (fun c2 => ?_)
    · exact (vi_t (vi_f q c1) c2)
    · exact am_s_return dc176_0.2.2.1 rfl ((vi_f (vi_f q c1) c2))
theorem v176_11 {sc : Option (Nat × (Nat → Int32))} {d k n : Nat} {P : am_O → Prop} {I : am_I} {J : am_J} {Pf : am_R} (hp : am_PF Pf) {l1 : Option Value} {l2 : Option Value} {l3 : Option Value} (q : (am_go sc d 176 (21, [some (.ref 0), l1, l2, l3], [], (am_SH, am_u I 0 19 ((I 0 19) + 1), J, Pf), k, n) P)) : am_go sc d 176 (11, [some (.ref 0), l1, l2, l3], [], (am_SH, I, J, Pf), k, n) P := by
  refine am_s_aload_n rfl dc176_0.2.2.2 ?_
  refine am_s_dup rfl dc176_1.1.1.1 ?_
  refine am_x_getI (x := I 0 19) dc176_1.1.1.2 rfl rfl (Or.inl rfl) rfl ?_
  refine am_s_iconst am_cc1 dc176_1.1.2.1 ?_
  refine am_s_iadd dc176_1.1.2.2 ?_
  refine am_s_putI dc176_1.2.1.1 rfl rfl rfl rfl ?_
  exact q
-- needSort (I)V
theorem v177_0 {sc : Option (Nat × (Nat → Int32))} {d k n : Nat} {P : am_O → Prop} {I : am_I} {J : am_J} {Pf : am_R} (hp : am_PF Pf) {x1 : Int32} (q : (am_mth d 176 [.ref 0, .int x1, .int 0, .int 7] (am_SH, I, J, Pf) (am_af sc d 177 5 [some (.ref 0), some (.int x1)] [.int 7, .int 0, .int x1, .ref 0] [] (am_SH, I, J, Pf) k n true P))) : am_go sc d 177 (0, [some (.ref 0), some (.int x1)], [], (am_SH, I, J, Pf), k, n) P := by
  refine am_s_aload_n rfl dc177_0.1.1 ?_
  refine am_s_iload_n rfl dc177_0.1.2.1 ?_
  refine am_s_iconst am_cc0 dc177_0.1.2.2 ?_
  refine am_s_bipush am_cb7 dc177_0.2.1 ?_
  exact am_s_virtual true dc177_0.2.2.1 rfl (by decide) rfl rfl rfl (q)
theorem v177_8 {sc : Option (Nat × (Nat → Int32))} {d k n : Nat} {P : am_O → Prop} {I : am_I} {J : am_J} {Pf : am_R} (hp : am_PF Pf) {l0 : Option Value} {l1 : Option Value} (q : (P (.inl none, (am_SH, I, J, Pf), k, n))) : am_go sc d 177 (8, [l0, l1], [], (am_SH, I, J, Pf), k, n) P := by
  exact am_s_return dc177_0.2.2.2 rfl (q)
-- needPiece (III)V
theorem v178_0 {sc : Option (Nat × (Nat → Int32))} {d k n : Nat} {P : am_O → Prop} {I : am_I} {J : am_J} {Pf : am_R} (hp : am_PF Pf) {x1 : Int32} {x2 : Int32} {x3 : Int32} (q : (am_mth d 177 [.ref 0, .int x1] (am_SH, I, J, Pf) (am_af sc d 178 2 [some (.ref 0), some (.int x1), some (.int x2), some (.int x3)] [.int x1, .ref 0] [] (am_SH, I, J, Pf) k n true P))) : am_go sc d 178 (0, [some (.ref 0), some (.int x1), some (.int x2), some (.int x3)], [], (am_SH, I, J, Pf), k, n) P := by
  refine am_s_aload_n rfl dc178_0.1.1.1 ?_
  refine am_s_iload_n rfl dc178_0.1.1.2 ?_
  exact am_s_virtual true dc178_0.1.2.1 rfl (by decide) rfl rfl rfl (q)
theorem v178_5 {sc : Option (Nat × (Nat → Int32))} {d k n : Nat} {P : am_O → Prop} {I : am_I} {J : am_J} {Pf : am_R} (hp : am_PF Pf) {l1 : Option Value} {x2 : Int32} {x3 : Int32} (q : (am_mth d 176 [.ref 0, .int x3, .int 0, .int (I 135 1)] (am_SH, I, J, Pf) (am_af sc d 178 15 [some (.ref 0), l1, some (.int x2), some (.int x3)] [.int (I 135 1), .int 0, .int x3, .ref 0] [] (am_SH, I, J, Pf) k n true P))) : am_go sc d 178 (5, [some (.ref 0), l1, some (.int x2), some (.int x3)], [], (am_SH, I, J, Pf), k, n) P := by
  refine am_s_aload_n rfl dc178_0.1.2.2 ?_
  refine am_s_iload_n rfl dc178_0.2.1.1 ?_
  refine am_s_iconst am_cc0 dc178_0.2.1.2 ?_
  refine am_s_aload_n rfl dc178_0.2.2.1 ?_
  refine am_s_getR (r := 135) dc178_0.2.2.2 rfl rfl rfl (hp _ _ _ rfl) ?_
  refine am_x_getI (x := I 135 1) dc178_1.1.1.1 rfl rfl (Or.inl rfl) rfl ?_
  exact am_s_virtual true dc178_1.1.1.2 rfl (by decide) rfl rfl rfl (q)
theorem v178_18 {sc : Option (Nat × (Nat → Int32))} {d k n : Nat} {P : am_O → Prop} {I : am_I} {J : am_J} {Pf : am_R} (hp : am_PF Pf) {l1 : Option Value} {x2 : Int32} {x3 : Int32} (q : (am_mth d 176 [.ref 0, .int x2, .int 0, .int x3] (am_SH, I, J, Pf) (am_af sc d 178 22 [some (.ref 0), l1, some (.int x2), some (.int x3)] [.int x3, .int 0, .int x2, .ref 0] [] (am_SH, I, J, Pf) k n true P))) : am_go sc d 178 (18, [some (.ref 0), l1, some (.int x2), some (.int x3)], [], (am_SH, I, J, Pf), k, n) P := by
  refine am_s_aload_n rfl dc178_1.1.2.1 ?_
  refine am_s_iload_n rfl dc178_1.1.2.2 ?_
  refine am_s_iconst am_cc0 dc178_1.2.1.1 ?_
  refine am_s_iload_n rfl dc178_1.2.1.2 ?_
  exact am_s_virtual true dc178_1.2.2.1 rfl (by decide) rfl rfl rfl (q)
theorem v178_25 {sc : Option (Nat × (Nat → Int32))} {d k n : Nat} {P : am_O → Prop} {I : am_I} {J : am_J} {Pf : am_R} (hp : am_PF Pf) {l0 : Option Value} {l1 : Option Value} {l2 : Option Value} {l3 : Option Value} (q : (P (.inl none, (am_SH, I, J, Pf), k, n))) : am_go sc d 178 (25, [l0, l1, l2, l3], [], (am_SH, I, J, Pf), k, n) P := by
  exact am_s_return dc178_1.2.2.2 rfl (q)
-- textChanged (I)V
theorem v179_0 {sc : Option (Nat × (Nat → Int32))} {d k n : Nat} {P : am_O → Prop} {I : am_I} {J : am_J} {Pf : am_R} (hp : am_PF Pf) {x1 : Int32} (q : (P (.inl none, (am_SH, am_u (am_u I 0 16 x1) 0 12 0, J, Pf), k, n))) : am_go sc d 179 (0, [some (.ref 0), some (.int x1)], [], (am_SH, I, J, Pf), k, n) P := by
  refine am_s_aload_n rfl dc179_0.1.1 ?_
  refine am_s_iload_n rfl dc179_0.1.2.1 ?_
  refine am_s_putI dc179_0.1.2.2 rfl rfl rfl rfl ?_
  refine am_s_aload_n rfl dc179_0.2.1.1 ?_
  refine am_s_iconst am_cc0 dc179_0.2.1.2 ?_
  refine am_s_putZ dc179_0.2.2.1 rfl rfl rfl rfl (by decide) ?_
  exact am_s_return dc179_0.2.2.2 rfl (q)
-- look ()V
theorem v180_0 {sc : Option (Nat × (Nat → Int32))} {d k n : Nat} {P : am_O → Prop} {I : am_I} {J : am_J} {Pf : am_R} (hp : am_PF Pf)  (q : (if (I 0 12) = 0 then (am_mth d 2 [.ref 112, .ref 135, .int 0, .int (I 135 1)] (am_SH, I, J, Pf) (am_af sc d 180 24 [some (.ref 0)] [.int (I 135 1), .int 0, .ref 135, .ref 112] [] (am_SH, I, J, Pf) k n false P)) else (P (.inl none, (am_SH, I, J, Pf), k, n)))) : am_go sc d 180 (0, [some (.ref 0)], [], (am_SH, I, J, Pf), k, n) P := by
  refine am_s_aload_n rfl dc180_0.1.1.1 ?_
  refine am_x_getI (x := I 0 12) dc180_0.1.1.2 rfl rfl (Or.inr rfl) rfl ?_
  refine am_s_if_eq dc180_0.1.2.1 rfl (fun c1 => ?_) (fun c1 => ?_)
  · refine am_s_aload_n rfl dc180_0.2.1.1 ?_
    refine am_s_getR (r := 112) dc180_0.2.1.2 rfl rfl rfl (hp _ _ _ rfl) ?_
    refine am_s_aload_n rfl dc180_0.2.2.1 ?_
    refine am_s_getR (r := 135) dc180_0.2.2.2 rfl rfl rfl (hp _ _ _ rfl) ?_
    refine am_s_iconst am_cc0 dc180_1.1.1.1 ?_
    refine am_s_aload_n rfl dc180_1.1.1.2 ?_
    refine am_s_getR (r := 135) dc180_1.1.2.1 rfl rfl rfl (hp _ _ _ rfl) ?_
    refine am_x_getI (x := I 135 1) dc180_1.1.2.2 rfl rfl (Or.inl rfl) rfl ?_
    exact am_s_virtual false dc180_1.2.1.1 rfl (by decide) rfl rfl rfl ((vi_t q c1))
  · exact am_s_return dc180_0.1.2.2 rfl ((vi_f q c1))
theorem v180_27 {sc : Option (Nat × (Nat → Int32))} {d k n : Nat} {P : am_O → Prop} {I : am_I} {J : am_J} {Pf : am_R} (hp : am_PF Pf)  (q : (am_mth d 123 [.ref 145] (am_SH, I, J, Pf) (am_af sc d 180 31 [some (.ref 0)] [.ref 145] [] (am_SH, I, J, Pf) k n false P))) : am_go sc d 180 (27, [some (.ref 0)], [], (am_SH, I, J, Pf), k, n) P := by
  refine am_s_aload_n rfl dc180_1.2.1.2 ?_
  refine am_s_getR (r := 145) dc180_1.2.2.1 rfl rfl rfl (hp _ _ _ rfl) ?_
  exact am_s_virtual false dc180_1.2.2.2 rfl (by decide) rfl rfl rfl (q)
theorem v180_34 {sc : Option (Nat × (Nat → Int32))} {d k n : Nat} {P : am_O → Prop} {I : am_I} {J : am_J} {Pf : am_R} (hp : am_PF Pf)  (q : (P (.inl none, (am_SH, am_u I 0 12 1, J, Pf), k, n))) : am_go sc d 180 (34, [some (.ref 0)], [], (am_SH, I, J, Pf), k, n) P := by
  refine am_s_aload_n rfl dc180_2.1.1 ?_
  refine am_s_iconst am_cc1 dc180_2.1.2 ?_
  refine am_s_putZ dc180_2.2.1 rfl rfl rfl rfl (by decide) ?_
  exact am_s_return dc180_2.2.2 rfl (q)
-- lookAtTrial ()I
theorem v181_0 {sc : Option (Nat × (Nat → Int32))} {d k n : Nat} {P : am_O → Prop} {I : am_I} {J : am_J} {Pf : am_R} (hp : am_PF Pf)  (q : (am_mth d 2 [.ref 112, .ref 140, .int 0, .int (I 140 1)] (am_SH, I, J, Pf) (am_af sc d 181 16 [some (.ref 0)] [.int (I 140 1), .int 0, .ref 140, .ref 112] [] (am_SH, I, J, Pf) k n false P))) : am_go sc d 181 (0, [some (.ref 0)], [], (am_SH, I, J, Pf), k, n) P := by
  refine am_s_aload_n rfl dc181_0.1.1.1 ?_
  refine am_s_getR (r := 112) dc181_0.1.1.2 rfl rfl rfl (hp _ _ _ rfl) ?_
  refine am_s_aload_n rfl dc181_0.1.2.1 ?_
  refine am_s_getR (r := 140) dc181_0.1.2.2 rfl rfl rfl (hp _ _ _ rfl) ?_
  refine am_s_iconst am_cc0 dc181_0.2.1.1 ?_
  refine am_s_aload_n rfl dc181_0.2.1.2 ?_
  refine am_s_getR (r := 140) dc181_0.2.2.1 rfl rfl rfl (hp _ _ _ rfl) ?_
  refine am_x_getI (x := I 140 1) dc181_0.2.2.2 rfl rfl (Or.inl rfl) rfl ?_
  exact am_s_virtual false dc181_1.1.1 rfl (by decide) rfl rfl rfl (q)
theorem v181_19 {sc : Option (Nat × (Nat → Int32))} {d k n : Nat} {P : am_O → Prop} {I : am_I} {J : am_J} {Pf : am_R} (hp : am_PF Pf)  (q : (am_mth d 119 [.ref 140] (am_SH, I, J, Pf) (am_af sc d 181 23 [some (.ref 0)] [.ref 140] [] (am_SH, I, J, Pf) k n false P))) : am_go sc d 181 (19, [some (.ref 0)], [], (am_SH, I, J, Pf), k, n) P := by
  refine am_s_aload_n rfl dc181_1.1.2 ?_
  refine am_s_getR (r := 140) dc181_1.2.1 rfl rfl rfl (hp _ _ _ rfl) ?_
  exact am_s_virtual false dc181_1.2.2.1 rfl (by decide) rfl rfl rfl (q)
theorem v181_26 {sc : Option (Nat × (Nat → Int32))} {d k n : Nat} {P : am_O → Prop} {I : am_I} {J : am_J} {Pf : am_R} (hp : am_PF Pf) {l0 : Option Value} {s0 : Int32} (q : (P (.inl (some (.int s0)), (am_SH, I, J, Pf), k, n))) : am_go sc d 181 (26, [l0], [.int s0], (am_SH, I, J, Pf), k, n) P := by
  exact am_s_ireturn dc181_1.2.2.2 rfl (q)
-- drawBy (I)I
theorem v182_0 {sc : Option (Nat × (Nat → Int32))} {d k n : Nat} {P : am_O → Prop} {I : am_I} {J : am_J} {Pf : am_R} (hp : am_PF Pf) {x1 : Int32} (q : (if 1 ≤ x1 then (¬ x1 = 0) ∧ (P (.inl (some (.int (((UInt32.toInt32 (Int32.toUInt32 (((I 0 17) * 1103515245) + 12345) >>> (Int32.toUInt32 16 &&& Int32.toUInt32 31))) &&& 32767) - ((UInt32.toInt32 (Int32.toUInt32 (((I 0 17) * 1103515245) + 12345) >>> (Int32.toUInt32 16 &&& Int32.toUInt32 31))) &&& 32767) / x1 * x1))), (am_SH, am_u I 0 17 (((I 0 17) * 1103515245) + 12345), J, Pf), k, n)) else (P (.inl (some (.int 0)), (am_SH, am_u I 0 17 (((I 0 17) * 1103515245) + 12345), J, Pf), k, n)))) : am_go sc d 182 (0, [some (.ref 0), some (.int x1)], [], (am_SH, I, J, Pf), k, n) P := by
  refine am_s_aload_n rfl dc182_0.1.1.1 ?_
  refine am_s_aload_n rfl dc182_0.1.1.2 ?_
  refine am_x_getI (x := I 0 17) dc182_0.1.2.1 rfl rfl (Or.inl rfl) rfl ?_
  refine am_s_ldcw (x := 1103515245) dc182_0.1.2.2 rfl rfl rfl ?_
  refine am_s_imul dc182_0.2.1.1 ?_
  refine am_s_sipush am_cs12345 dc182_0.2.1.2 ?_
  refine am_s_iadd dc182_0.2.2.1 ?_
  refine am_s_putI dc182_0.2.2.2 rfl rfl rfl rfl ?_
  refine am_s_iload_n rfl dc182_1.1.1.1 ?_
  refine am_s_iconst am_cc1 dc182_1.1.1.2 ?_
  refine am_s_ic_ge dc182_1.1.2.1 rfl (fun c1 => ?_) (fun c1 => ?_)
  · refine am_s_aload_n rfl dc182_1.2.1.2 ?_
    refine am_x_getI (x := ((I 0 17) * 1103515245) + 12345) dc182_1.2.2.1 rfl rfl (Or.inl rfl) rfl ?_
    refine am_s_bipush am_cb16 dc182_1.2.2.2 ?_
    refine am_s_iushr dc182_2.1.1 ?_
    refine am_s_sipush am_cs32767 dc182_2.1.2.1 ?_
    refine am_s_iand dc182_2.1.2.2 ?_
    refine am_s_iload_n rfl dc182_2.2.1 ?_
    refine am_s_irem ((vi_t q c1).1) dc182_2.2.2.1 ?_
    exact am_s_ireturn dc182_2.2.2.2 rfl ((vi_t q c1).2)
  · refine am_s_iconst am_cc0 dc182_1.1.2.2 ?_
    refine am_s_goto rfl dc182_1.2.1.1 ?_
    exact am_s_ireturn dc182_2.2.2.2 rfl ((vi_f q c1))
-- passYear (IIZ)I
theorem v183_0 {sc : Option (Nat × (Nat → Int32))} {d k n : Nat} {P : am_O → Prop} {I : am_I} {J : am_J} {Pf : am_R} (hp : am_PF Pf) {x1 : Int32} {x2 : Int32} {x3 : Int32} {l4 : Option Value} {l5 : Option Value} {l6 : Option Value} (q : (am_mth d 109 [.ref 140, .ref 135] (am_SH, I, J, Pf) (am_af sc d 183 8 [some (.ref 0), some (.int x1), some (.int x2), some (.int x3), l4, l5, l6] [.ref 135, .ref 140] [] (am_SH, I, J, Pf) k n false P))) : am_go sc d 183 (0, [some (.ref 0), some (.int x1), some (.int x2), some (.int x3), l4, l5, l6], [], (am_SH, I, J, Pf), k, n) P := by
  refine am_s_aload_n rfl dc183_0.1.1.1 ?_
  refine am_s_getR (r := 140) dc183_0.1.1.2 rfl rfl rfl (hp _ _ _ rfl) ?_
  refine am_s_aload_n rfl dc183_0.1.2.1 ?_
  refine am_s_getR (r := 135) dc183_0.1.2.2 rfl rfl rfl (hp _ _ _ rfl) ?_
  exact am_s_virtual false dc183_0.2.1.1 rfl (by decide) rfl rfl rfl (q)
theorem v183_25 {sc : Option (Nat × (Nat → Int32))} {d k n : Nat} {P : am_O → Prop} {I : am_I} {J : am_J} {Pf : am_R} (hp : am_PF Pf) {l1 : Option Value} {x2 : Int32} {x3 : Int32} {x4 : Int32} {x5 : Int32} {x6 : Int32} (q : (if x2 ≤ x6 then (if x3 = 0 then (P (.inl (some (.int x4)), (am_SH, I, J, Pf), k, n)) else (P (.inl (some (.int x5)), (am_SH, I, J, Pf), k, n))) else (am_mth (d + 1) 184 [.ref 0, .int (((UInt32.toInt32 (Int32.toUInt32 (((I 0 17) * 1103515245) + 12345) >>> (Int32.toUInt32 16 &&& Int32.toUInt32 31))) &&& 32767) - ((UInt32.toInt32 (Int32.toUInt32 (((I 0 17) * 1103515245) + 12345) >>> (Int32.toUInt32 16 &&& Int32.toUInt32 31))) &&& 32767) / 4 * 4)] (am_SH, am_u I 0 17 (((I 0 17) * 1103515245) + 12345), J, Pf) (am_af sc (d + 1) 183 37 [some (.ref 0), l1, some (.int x2), some (.int x3), some (.int x4), some (.int x5), some (.int x6)] [.int (((UInt32.toInt32 (Int32.toUInt32 (((I 0 17) * 1103515245) + 12345) >>> (Int32.toUInt32 16 &&& Int32.toUInt32 31))) &&& 32767) - ((UInt32.toInt32 (Int32.toUInt32 (((I 0 17) * 1103515245) + 12345) >>> (Int32.toUInt32 16 &&& Int32.toUInt32 31))) &&& 32767) / 4 * 4), .ref 0] [] (am_SH, am_u I 0 17 (((I 0 17) * 1103515245) + 12345), J, Pf) k n true P)))) : am_go sc (d + 1) 183 (25, [some (.ref 0), l1, some (.int x2), some (.int x3), some (.int x4), some (.int x5), some (.int x6)], [], (am_SH, I, J, Pf), k, n) P := by
  refine am_s_iload rfl dc183_1.2.2.1 ?_
  refine am_s_iload_n rfl dc183_1.2.2.2 ?_
  refine am_s_ic_ge dc183_2.1.1.1 rfl (fun c1 => ?_) (fun c1 => ?_)
  · refine am_s_iload_n rfl dc183_6.1.1 ?_
    refine am_s_if_eq dc183_6.1.2.1 rfl (fun c2 => ?_) (fun c2 => ?_)
    · refine am_s_iload rfl dc183_6.2.2.1 ?_
      exact am_s_ireturn dc183_6.2.2.2 rfl ((vi_t (vi_t q c1) c2))
    · refine am_s_iload rfl dc183_6.1.2.2 ?_
      refine am_s_goto rfl dc183_6.2.1 ?_
      exact am_s_ireturn dc183_6.2.2.2 rfl ((vi_f (vi_t q c1) c2))
  · refine am_s_aload_n rfl dc183_2.1.1.2 ?_
    refine am_s_aload_n rfl dc183_2.1.2.1 ?_
    refine am_s_iconst am_cc4 dc183_2.1.2.2 ?_
    refine am_s_virtual true dc183_2.2.1.1 rfl (by decide) rfl rfl rfl (am_mth_of rfl rfl ?_)
    refine am_s_aload_n rfl dc182_0.1.1.1 ?_
    refine am_s_aload_n rfl dc182_0.1.1.2 ?_
    refine am_x_getI (x := I 0 17) dc182_0.1.2.1 rfl rfl (Or.inl rfl) rfl ?_
    refine am_s_ldcw (x := 1103515245) dc182_0.1.2.2 rfl rfl rfl ?_
    refine am_s_imul dc182_0.2.1.1 ?_
    refine am_s_sipush am_cs12345 dc182_0.2.1.2 ?_
    refine am_s_iadd dc182_0.2.2.1 ?_
    refine am_s_putI dc182_0.2.2.2 rfl rfl rfl rfl ?_
    refine am_s_iload_n rfl dc182_1.1.1.1 ?_
    refine am_s_iconst am_cc1 dc182_1.1.1.2 ?_
    refine am_s_ic_ge dc182_1.1.2.1 rfl (fun _ => ?_) (fun z => absurd z (by decide))
    refine am_s_aload_n rfl dc182_1.2.1.2 ?_
    refine am_x_getI (x := ((I 0 17) * 1103515245) + 12345) dc182_1.2.2.1 rfl rfl (Or.inl rfl) rfl ?_
    refine am_s_bipush am_cb16 dc182_1.2.2.2 ?_
    refine am_s_iushr dc182_2.1.1 ?_
    refine am_s_sipush am_cs32767 dc182_2.1.2.1 ?_
    refine am_s_iand dc182_2.1.2.2 ?_
    refine am_s_iload_n rfl dc182_2.2.1 ?_
    refine am_s_irem (by decide) dc182_2.2.2.1 ?_
    refine am_s_ireturn dc182_2.2.2.2 rfl (am_bkI ?_)
    exact am_s_virtual true dc183_2.2.1.2 rfl (by decide) rfl rfl rfl ((vi_f q c1))
theorem v183_11 {sc : Option (Nat × (Nat → Int32))} {d k n : Nat} {P : am_O → Prop} {I : am_I} {J : am_J} {Pf : am_R} (hp : am_PF Pf) {x1 : Int32} {x2 : Int32} {x3 : Int32} {l4 : Option Value} {l5 : Option Value} {l6 : Option Value} (q : (am_go sc d 183 (25, [some (.ref 0), some (.int x1), some (.int x2), some (.int x3), some (.int 0), some (.int 0), some (.int 0)], [], (am_SH, am_u I 0 17 x1, J, Pf), k, n) P)) : am_go sc d 183 (11, [some (.ref 0), some (.int x1), some (.int x2), some (.int x3), l4, l5, l6], [], (am_SH, I, J, Pf), k, n) P := by
  refine am_s_aload_n rfl dc183_0.2.1.2 ?_
  refine am_s_iload_n rfl dc183_0.2.2.1 ?_
  refine am_s_putI dc183_0.2.2.2 rfl rfl rfl rfl ?_
  refine am_s_iconst am_cc0 dc183_1.1.1.1 ?_
  refine am_s_istore (ls' := [some (.ref 0), some (.int x1), some (.int x2), some (.int x3), some (.int 0), l5, l6]) rfl rfl dc183_1.1.1.2 ?_
  refine am_s_iconst am_cc0 dc183_1.1.2.1 ?_
  refine am_s_istore (ls' := [some (.ref 0), some (.int x1), some (.int x2), some (.int x3), some (.int 0), some (.int 0), l6]) rfl rfl dc183_1.1.2.2 ?_
  refine am_s_iconst am_cc0 dc183_1.2.1.1 ?_
  refine am_s_istore (ls' := [some (.ref 0), some (.int x1), some (.int x2), some (.int x3), some (.int 0), some (.int 0), some (.int 0)]) rfl rfl dc183_1.2.1.2 ?_
  exact q
theorem v183_40 {sc : Option (Nat × (Nat → Int32))} {d k n : Nat} {P : am_O → Prop} {I : am_I} {J : am_J} {Pf : am_R} (hp : am_PF Pf) {l1 : Option Value} {x2 : Int32} {x3 : Int32} {x4 : Int32} {x5 : Int32} {x6 : Int32} {s0 : Int32} (q : (if s0 = 0 then (if x3 = 0 then (am_go sc d 183 (25, [some (.ref 0), l1, some (.int x2), some (.int x3), some (.int (x4 + 1)), some (.int x5), some (.int (x6 + 1))], [], (am_SH, I, J, Pf), k, n) P) else (am_mth d 2 [.ref 112, .ref 140, .int 0, .int (I 140 1)] (am_SH, I, J, Pf) (am_af sc d 183 69 [some (.ref 0), l1, some (.int x2), some (.int x3), some (.int (x4 + 1)), some (.int x5), some (.int x6)] [.int (I 140 1), .int 0, .ref 140, .ref 112] [] (am_SH, I, J, Pf) k n false P))) else (if x3 = 0 then (am_go sc d 183 (25, [some (.ref 0), l1, some (.int x2), some (.int x3), some (.int x4), some (.int x5), some (.int (x6 + 1))], [], (am_SH, I, J, Pf), k, n) P) else (am_mth d 2 [.ref 112, .ref 140, .int 0, .int (I 140 1)] (am_SH, I, J, Pf) (am_af sc d 183 69 [some (.ref 0), l1, some (.int x2), some (.int x3), some (.int x4), some (.int x5), some (.int x6)] [.int (I 140 1), .int 0, .ref 140, .ref 112] [] (am_SH, I, J, Pf) k n false P))))) : am_go sc d 183 (40, [some (.ref 0), l1, some (.int x2), some (.int x3), some (.int x4), some (.int x5), some (.int x6)], [.int s0], (am_SH, I, J, Pf), k, n) P := by
  refine am_s_if_ne dc183_2.2.2.1 rfl (fun c1 => ?_) (fun c1 => ?_)
  · refine am_s_iload_n rfl dc183_3.1.1.1 ?_
    refine am_s_if_ne dc183_3.1.1.2 rfl (fun c2 => ?_) (fun c2 => ?_)
    · refine am_s_aload_n rfl dc183_3.1.2.2 ?_
      refine am_s_getR (r := 112) dc183_3.2.1.1 rfl rfl rfl (hp _ _ _ rfl) ?_
      refine am_s_aload_n rfl dc183_3.2.1.2 ?_
      refine am_s_getR (r := 140) dc183_3.2.2.1 rfl rfl rfl (hp _ _ _ rfl) ?_
      refine am_s_iconst am_cc0 dc183_3.2.2.2 ?_
      refine am_s_aload_n rfl dc183_4.1.1.1 ?_
      refine am_s_getR (r := 140) dc183_4.1.1.2 rfl rfl rfl (hp _ _ _ rfl) ?_
      refine am_x_getI (x := I 140 1) dc183_4.1.2.1 rfl rfl (Or.inl rfl) rfl ?_
      exact am_s_virtual false dc183_4.1.2.2 rfl (by decide) rfl rfl rfl ((vi_f (vi_f q c1) c2))
    · refine am_s_goto rfl dc183_3.1.2.1 ?_
      refine am_s_iinc (ls' := [some (.ref 0), l1, some (.int x2), some (.int x3), some (.int x4), some (.int x5), some (.int (x6 + 1))]) am_cc1 rfl rfl dc183_5.2.2.1 ?_
      refine am_s_goto rfl dc183_5.2.2.2 ?_
      exact (vi_t (vi_f q c1) (Decidable.not_not.mp c2))
  · refine am_s_iinc (ls' := [some (.ref 0), l1, some (.int x2), some (.int x3), some (.int (x4 + 1)), some (.int x5), some (.int x6)]) am_cc1 rfl rfl dc183_2.2.2.2 ?_
    refine am_s_iload_n rfl dc183_3.1.1.1 ?_
    refine am_s_if_ne dc183_3.1.1.2 rfl (fun c2 => ?_) (fun c2 => ?_)
    · refine am_s_aload_n rfl dc183_3.1.2.2 ?_
      refine am_s_getR (r := 112) dc183_3.2.1.1 rfl rfl rfl (hp _ _ _ rfl) ?_
      refine am_s_aload_n rfl dc183_3.2.1.2 ?_
      refine am_s_getR (r := 140) dc183_3.2.2.1 rfl rfl rfl (hp _ _ _ rfl) ?_
      refine am_s_iconst am_cc0 dc183_3.2.2.2 ?_
      refine am_s_aload_n rfl dc183_4.1.1.1 ?_
      refine am_s_getR (r := 140) dc183_4.1.1.2 rfl rfl rfl (hp _ _ _ rfl) ?_
      refine am_x_getI (x := I 140 1) dc183_4.1.2.1 rfl rfl (Or.inl rfl) rfl ?_
      exact am_s_virtual false dc183_4.1.2.2 rfl (by decide) rfl rfl rfl ((vi_f (vi_t q (Decidable.not_not.mp c1)) c2))
    · refine am_s_goto rfl dc183_3.1.2.1 ?_
      refine am_s_iinc (ls' := [some (.ref 0), l1, some (.int x2), some (.int x3), some (.int (x4 + 1)), some (.int x5), some (.int (x6 + 1))]) am_cc1 rfl rfl dc183_5.2.2.1 ?_
      refine am_s_goto rfl dc183_5.2.2.2 ?_
      exact (vi_t (vi_t q (Decidable.not_not.mp c1)) (Decidable.not_not.mp c2))
theorem v183_72 {sc : Option (Nat × (Nat → Int32))} {d k n : Nat} {P : am_O → Prop} {I : am_I} {J : am_J} {Pf : am_R} (hp : am_PF Pf) {l1 : Option Value} {x2 : Int32} {x3 : Int32} {x4 : Int32} {x5 : Int32} {x6 : Int32} (q : (am_in (((0 : Int32) * 25) + 0) 200 = true) ∧ (if ((UInt32.toInt32 (Int32.toUInt32 (I 143 (Int32.toNatClampNeg (((0 : Int32) * 25) + 0))) >>> (Int32.toUInt32 (I 140 1) &&& Int32.toUInt32 31))) &&& 1) = 0 then (am_go sc (d + 1) 183 (25, [some (.ref 0), l1, some (.int x2), some (.int x3), some (.int x4), some (.int x5), some (.int (x6 + 1))], [], (am_SH, I, J, Pf), k, n) P) else (am_go sc (d + 1) 183 (25, [some (.ref 0), l1, some (.int x2), some (.int x3), some (.int x4), some (.int (x5 + 1)), some (.int (x6 + 1))], [], (am_SH, I, J, Pf), k, n) P))) : am_go sc (d + 1) 183 (72, [some (.ref 0), l1, some (.int x2), some (.int x3), some (.int x4), some (.int x5), some (.int x6)], [], (am_SH, I, J, Pf), k, n) P := by
  refine am_s_aload_n rfl dc183_4.2.1.1 ?_
  refine am_s_getR (r := 140) dc183_4.2.1.2 rfl rfl rfl (hp _ _ _ rfl) ?_
  refine am_s_iconst am_cc0 dc183_4.2.2.1 ?_
  refine am_s_iconst am_cc0 dc183_4.2.2.2 ?_
  refine am_s_aload_n rfl dc183_5.1.1.1 ?_
  refine am_s_getR (r := 140) dc183_5.1.1.2 rfl rfl rfl (hp _ _ _ rfl) ?_
  refine am_x_getI (x := I 140 1) dc183_5.1.2.1 rfl rfl (Or.inl rfl) rfl ?_
  refine am_s_virtual false dc183_5.1.2.2 rfl (by decide) rfl rfl rfl (am_mth_of rfl rfl ?_)
  refine am_s_aload_n rfl dc118_0.1.1.1 ?_
  refine am_s_getR (r := 143) dc118_0.1.1.2 rfl rfl rfl (hp _ _ _ rfl) ?_
  refine am_s_iload_n rfl dc118_0.1.2.1 ?_
  refine am_s_bipush am_cb25 dc118_0.1.2.2 ?_
  refine am_s_imul dc118_0.2.1.1 ?_
  refine am_s_iload_n rfl dc118_0.2.1.2 ?_
  refine am_s_iadd dc118_0.2.2.1 ?_
  refine am_x_iaload (x := I 143 (Int32.toNatClampNeg (((0 : Int32) * 25) + 0))) dc118_0.2.2.2 rfl (q.1) rfl rfl ?_
  refine am_s_iload_n rfl dc118_1.1.1.1 ?_
  refine am_s_iushr dc118_1.1.1.2 ?_
  refine am_s_iconst am_cc1 dc118_1.1.2.1 ?_
  refine am_s_iand dc118_1.1.2.2 ?_
  refine am_s_if_eq dc118_1.2.1.1 rfl (fun c1 => ?_) (fun c1 => ?_)
  · refine am_s_iconst am_cc0 dc118_1.2.2.2 ?_
    refine am_s_zreturn dc118_2 rfl (by decide) (am_bkI ?_)
    refine am_s_if_eq dc183_5.2.1.1 rfl (fun _ => ?_) (fun z => absurd z (by decide))
    refine am_s_iinc (ls' := [some (.ref 0), l1, some (.int x2), some (.int x3), some (.int x4), some (.int x5), some (.int (x6 + 1))]) am_cc1 rfl rfl dc183_5.2.2.1 ?_
    refine am_s_goto rfl dc183_5.2.2.2 ?_
    exact (vi_t q.2 c1)
  · refine am_s_iconst am_cc1 dc118_1.2.1.2 ?_
    refine am_s_goto rfl dc118_1.2.2.1 ?_
    refine am_s_zreturn dc118_2 rfl (by decide) (am_bkI ?_)
    refine am_s_if_eq dc183_5.2.1.1 rfl (fun z => absurd z (by decide)) (fun _ => ?_)
    refine am_s_iinc (ls' := [some (.ref 0), l1, some (.int x2), some (.int x3), some (.int x4), some (.int (x5 + 1)), some (.int x6)]) am_cc1 rfl rfl dc183_5.2.1.2 ?_
    refine am_s_iinc (ls' := [some (.ref 0), l1, some (.int x2), some (.int x3), some (.int x4), some (.int (x5 + 1)), some (.int (x6 + 1))]) am_cc1 rfl rfl dc183_5.2.2.1 ?_
    refine am_s_goto rfl dc183_5.2.2.2 ?_
    exact (vi_f q.2 c1)
-- editTrial (I)Z
theorem v184_0 {sc : Option (Nat × (Nat → Int32))} {d k n : Nat} {P : am_O → Prop} {I : am_I} {J : am_J} {Pf : am_R} (hp : am_PF Pf) {x1 : Int32} {l2 : Option Value} (q : (if x1 = 3 then (am_mth (d + 1) 114 [.ref 140, .int (((UInt32.toInt32 (Int32.toUInt32 (((I 0 17) * 1103515245) + 12345) >>> (Int32.toUInt32 16 &&& Int32.toUInt32 31))) &&& 32767) - ((UInt32.toInt32 (Int32.toUInt32 (((I 0 17) * 1103515245) + 12345) >>> (Int32.toUInt32 16 &&& Int32.toUInt32 31))) &&& 32767) / 24 * 24), .int (((UInt32.toInt32 (Int32.toUInt32 (((((I 0 17) * 1103515245) + 12345) * 1103515245) + 12345) >>> (Int32.toUInt32 16 &&& Int32.toUInt32 31))) &&& 32767) - ((UInt32.toInt32 (Int32.toUInt32 (((((I 0 17) * 1103515245) + 12345) * 1103515245) + 12345) >>> (Int32.toUInt32 16 &&& Int32.toUInt32 31))) &&& 32767) / 24 * 24)] (am_SH, am_u (am_u I 0 17 (((I 0 17) * 1103515245) + 12345)) 0 17 (((((I 0 17) * 1103515245) + 12345) * 1103515245) + 12345), J, Pf) (am_af sc (d + 1) 184 23 [some (.ref 0), some (.int x1), some (.int (((UInt32.toInt32 (Int32.toUInt32 (((I 0 17) * 1103515245) + 12345) >>> (Int32.toUInt32 16 &&& Int32.toUInt32 31))) &&& 32767) - ((UInt32.toInt32 (Int32.toUInt32 (((I 0 17) * 1103515245) + 12345) >>> (Int32.toUInt32 16 &&& Int32.toUInt32 31))) &&& 32767) / 24 * 24))] [.int (((UInt32.toInt32 (Int32.toUInt32 (((((I 0 17) * 1103515245) + 12345) * 1103515245) + 12345) >>> (Int32.toUInt32 16 &&& Int32.toUInt32 31))) &&& 32767) - ((UInt32.toInt32 (Int32.toUInt32 (((((I 0 17) * 1103515245) + 12345) * 1103515245) + 12345) >>> (Int32.toUInt32 16 &&& Int32.toUInt32 31))) &&& 32767) / 24 * 24), .int (((UInt32.toInt32 (Int32.toUInt32 (((I 0 17) * 1103515245) + 12345) >>> (Int32.toUInt32 16 &&& Int32.toUInt32 31))) &&& 32767) - ((UInt32.toInt32 (Int32.toUInt32 (((I 0 17) * 1103515245) + 12345) >>> (Int32.toUInt32 16 &&& Int32.toUInt32 31))) &&& 32767) / 24 * 24), .ref 140] [] (am_SH, am_u (am_u I 0 17 (((I 0 17) * 1103515245) + 12345)) 0 17 (((((I 0 17) * 1103515245) + 12345) * 1103515245) + 12345), J, Pf) k n false P)) else (if 1 ≤ ((I 140 1) + 1) then (¬ ((I 140 1) + 1) = 0) ∧ (if x1 = 2 then (am_mth (d + 1) 113 [.ref 140, .int (((UInt32.toInt32 (Int32.toUInt32 (((I 0 17) * 1103515245) + 12345) >>> (Int32.toUInt32 16 &&& Int32.toUInt32 31))) &&& 32767) - ((UInt32.toInt32 (Int32.toUInt32 (((I 0 17) * 1103515245) + 12345) >>> (Int32.toUInt32 16 &&& Int32.toUInt32 31))) &&& 32767) / ((I 140 1) + 1) * ((I 140 1) + 1)), .int 1] (am_SH, am_u I 0 17 (((I 0 17) * 1103515245) + 12345), J, Pf) (am_af sc (d + 1) 184 52 [some (.ref 0), some (.int x1), some (.int (((UInt32.toInt32 (Int32.toUInt32 (((I 0 17) * 1103515245) + 12345) >>> (Int32.toUInt32 16 &&& Int32.toUInt32 31))) &&& 32767) - ((UInt32.toInt32 (Int32.toUInt32 (((I 0 17) * 1103515245) + 12345) >>> (Int32.toUInt32 16 &&& Int32.toUInt32 31))) &&& 32767) / ((I 140 1) + 1) * ((I 140 1) + 1)))] [.int 1, .int (((UInt32.toInt32 (Int32.toUInt32 (((I 0 17) * 1103515245) + 12345) >>> (Int32.toUInt32 16 &&& Int32.toUInt32 31))) &&& 32767) - ((UInt32.toInt32 (Int32.toUInt32 (((I 0 17) * 1103515245) + 12345) >>> (Int32.toUInt32 16 &&& Int32.toUInt32 31))) &&& 32767) / ((I 140 1) + 1) * ((I 140 1) + 1)), .ref 140] [] (am_SH, am_u I 0 17 (((I 0 17) * 1103515245) + 12345), J, Pf) k n false P)) else (am_mth (d + 1) 112 [.ref 140, .int (((UInt32.toInt32 (Int32.toUInt32 (((I 0 17) * 1103515245) + 12345) >>> (Int32.toUInt32 16 &&& Int32.toUInt32 31))) &&& 32767) - ((UInt32.toInt32 (Int32.toUInt32 (((I 0 17) * 1103515245) + 12345) >>> (Int32.toUInt32 16 &&& Int32.toUInt32 31))) &&& 32767) / ((I 140 1) + 1) * ((I 140 1) + 1)), .int (32 + (((UInt32.toInt32 (Int32.toUInt32 (((((I 0 17) * 1103515245) + 12345) * 1103515245) + 12345) >>> (Int32.toUInt32 16 &&& Int32.toUInt32 31))) &&& 32767) - ((UInt32.toInt32 (Int32.toUInt32 (((((I 0 17) * 1103515245) + 12345) * 1103515245) + 12345) >>> (Int32.toUInt32 16 &&& Int32.toUInt32 31))) &&& 32767) / 95 * 95))] (am_SH, am_u (am_u I 0 17 (((I 0 17) * 1103515245) + 12345)) 0 17 (((((I 0 17) * 1103515245) + 12345) * 1103515245) + 12345), J, Pf) (am_af sc (d + 1) 184 70 [some (.ref 0), some (.int x1), some (.int (((UInt32.toInt32 (Int32.toUInt32 (((I 0 17) * 1103515245) + 12345) >>> (Int32.toUInt32 16 &&& Int32.toUInt32 31))) &&& 32767) - ((UInt32.toInt32 (Int32.toUInt32 (((I 0 17) * 1103515245) + 12345) >>> (Int32.toUInt32 16 &&& Int32.toUInt32 31))) &&& 32767) / ((I 140 1) + 1) * ((I 140 1) + 1)))] [.int (32 + (((UInt32.toInt32 (Int32.toUInt32 (((((I 0 17) * 1103515245) + 12345) * 1103515245) + 12345) >>> (Int32.toUInt32 16 &&& Int32.toUInt32 31))) &&& 32767) - ((UInt32.toInt32 (Int32.toUInt32 (((((I 0 17) * 1103515245) + 12345) * 1103515245) + 12345) >>> (Int32.toUInt32 16 &&& Int32.toUInt32 31))) &&& 32767) / 95 * 95)), .int (((UInt32.toInt32 (Int32.toUInt32 (((I 0 17) * 1103515245) + 12345) >>> (Int32.toUInt32 16 &&& Int32.toUInt32 31))) &&& 32767) - ((UInt32.toInt32 (Int32.toUInt32 (((I 0 17) * 1103515245) + 12345) >>> (Int32.toUInt32 16 &&& Int32.toUInt32 31))) &&& 32767) / ((I 140 1) + 1) * ((I 140 1) + 1)), .ref 140] [] (am_SH, am_u (am_u I 0 17 (((I 0 17) * 1103515245) + 12345)) 0 17 (((((I 0 17) * 1103515245) + 12345) * 1103515245) + 12345), J, Pf) k n false P))) else (if x1 = 2 then (am_mth (d + 1) 113 [.ref 140, .int 0, .int 1] (am_SH, am_u I 0 17 (((I 0 17) * 1103515245) + 12345), J, Pf) (am_af sc (d + 1) 184 52 [some (.ref 0), some (.int x1), some (.int 0)] [.int 1, .int 0, .ref 140] [] (am_SH, am_u I 0 17 (((I 0 17) * 1103515245) + 12345), J, Pf) k n false P)) else (am_mth (d + 1) 112 [.ref 140, .int 0, .int (32 + (((UInt32.toInt32 (Int32.toUInt32 (((((I 0 17) * 1103515245) + 12345) * 1103515245) + 12345) >>> (Int32.toUInt32 16 &&& Int32.toUInt32 31))) &&& 32767) - ((UInt32.toInt32 (Int32.toUInt32 (((((I 0 17) * 1103515245) + 12345) * 1103515245) + 12345) >>> (Int32.toUInt32 16 &&& Int32.toUInt32 31))) &&& 32767) / 95 * 95))] (am_SH, am_u (am_u I 0 17 (((I 0 17) * 1103515245) + 12345)) 0 17 (((((I 0 17) * 1103515245) + 12345) * 1103515245) + 12345), J, Pf) (am_af sc (d + 1) 184 70 [some (.ref 0), some (.int x1), some (.int 0)] [.int (32 + (((UInt32.toInt32 (Int32.toUInt32 (((((I 0 17) * 1103515245) + 12345) * 1103515245) + 12345) >>> (Int32.toUInt32 16 &&& Int32.toUInt32 31))) &&& 32767) - ((UInt32.toInt32 (Int32.toUInt32 (((((I 0 17) * 1103515245) + 12345) * 1103515245) + 12345) >>> (Int32.toUInt32 16 &&& Int32.toUInt32 31))) &&& 32767) / 95 * 95)), .int 0, .ref 140] [] (am_SH, am_u (am_u I 0 17 (((I 0 17) * 1103515245) + 12345)) 0 17 (((((I 0 17) * 1103515245) + 12345) * 1103515245) + 12345), J, Pf) k n false P)))))) : am_go sc (d + 1) 184 (0, [some (.ref 0), some (.int x1), l2], [], (am_SH, I, J, Pf), k, n) P := by
  refine am_s_iload_n rfl dc184_0.1.1.1 ?_
  refine am_s_iconst am_cc3 dc184_0.1.1.2 ?_
  refine am_s_ic_ne dc184_0.1.2.1 rfl (fun c1 => ?_) (fun c1 => ?_)
  · refine am_s_aload_n rfl dc184_1.2.2.2 ?_
    refine am_s_aload_n rfl dc184_2.1.1.1 ?_
    refine am_s_getR (r := 140) dc184_2.1.1.2 rfl rfl rfl (hp _ _ _ rfl) ?_
    refine am_x_getI (x := I 140 1) dc184_2.1.2.1 rfl rfl (Or.inl rfl) rfl ?_
    refine am_s_iconst am_cc1 dc184_2.1.2.2 ?_
    refine am_s_iadd dc184_2.2.1.1 ?_
    refine am_s_virtual true dc184_2.2.1.2 rfl (by decide) rfl rfl rfl (am_mth_of rfl rfl ?_)
    refine am_s_aload_n rfl dc182_0.1.1.1 ?_
    refine am_s_aload_n rfl dc182_0.1.1.2 ?_
    refine am_x_getI (x := I 0 17) dc182_0.1.2.1 rfl rfl (Or.inl rfl) rfl ?_
    refine am_s_ldcw (x := 1103515245) dc182_0.1.2.2 rfl rfl rfl ?_
    refine am_s_imul dc182_0.2.1.1 ?_
    refine am_s_sipush am_cs12345 dc182_0.2.1.2 ?_
    refine am_s_iadd dc182_0.2.2.1 ?_
    refine am_s_putI dc182_0.2.2.2 rfl rfl rfl rfl ?_
    refine am_s_iload_n rfl dc182_1.1.1.1 ?_
    refine am_s_iconst am_cc1 dc182_1.1.1.2 ?_
    refine am_s_ic_ge dc182_1.1.2.1 rfl (fun c2 => ?_) (fun c2 => ?_)
    · refine am_s_aload_n rfl dc182_1.2.1.2 ?_
      refine am_x_getI (x := ((I 0 17) * 1103515245) + 12345) dc182_1.2.2.1 rfl rfl (Or.inl rfl) rfl ?_
      refine am_s_bipush am_cb16 dc182_1.2.2.2 ?_
      refine am_s_iushr dc182_2.1.1 ?_
      refine am_s_sipush am_cs32767 dc182_2.1.2.1 ?_
      refine am_s_iand dc182_2.1.2.2 ?_
      refine am_s_iload_n rfl dc182_2.2.1 ?_
      refine am_s_irem ((vi_t (vi_f q c1) c2).1) dc182_2.2.2.1 ?_
      refine am_s_ireturn dc182_2.2.2.2 rfl (am_bkI ?_)
      refine am_s_istore_n (ls' := [some (.ref 0), some (.int x1), some (.int (((UInt32.toInt32 (Int32.toUInt32 (((I 0 17) * 1103515245) + 12345) >>> (Int32.toUInt32 16 &&& Int32.toUInt32 31))) &&& 32767) - ((UInt32.toInt32 (Int32.toUInt32 (((I 0 17) * 1103515245) + 12345) >>> (Int32.toUInt32 16 &&& Int32.toUInt32 31))) &&& 32767) / ((I 140 1) + 1) * ((I 140 1) + 1)))]) rfl rfl dc184_2.2.2.1 ?_
      refine am_s_iload_n rfl dc184_2.2.2.2 ?_
      refine am_s_iconst am_cc2 dc184_3.1.1.1 ?_
      refine am_s_ic_ne dc184_3.1.1.2 rfl (fun c3 => ?_) (fun c3 => ?_)
      · refine am_s_aload_n rfl dc184_4.1.1.1 ?_
        refine am_s_getR (r := 140) dc184_4.1.1.2 rfl rfl rfl (hp _ _ _ rfl) ?_
        refine am_s_iload_n rfl dc184_4.1.2.1 ?_
        refine am_s_bipush am_cb32 dc184_4.1.2.2 ?_
        refine am_s_aload_n rfl dc184_4.2.1.1 ?_
        refine am_s_bipush am_cb95 dc184_4.2.1.2 ?_
        refine am_s_virtual true dc184_4.2.2.1 rfl (by decide) rfl rfl rfl (am_mth_of rfl rfl ?_)
        refine am_s_aload_n rfl dc182_0.1.1.1 ?_
        refine am_s_aload_n rfl dc182_0.1.1.2 ?_
        refine am_x_getI (x := ((I 0 17) * 1103515245) + 12345) dc182_0.1.2.1 rfl rfl (Or.inl rfl) rfl ?_
        refine am_s_ldcw (x := 1103515245) dc182_0.1.2.2 rfl rfl rfl ?_
        refine am_s_imul dc182_0.2.1.1 ?_
        refine am_s_sipush am_cs12345 dc182_0.2.1.2 ?_
        refine am_s_iadd dc182_0.2.2.1 ?_
        refine am_s_putI dc182_0.2.2.2 rfl rfl rfl rfl ?_
        refine am_s_iload_n rfl dc182_1.1.1.1 ?_
        refine am_s_iconst am_cc1 dc182_1.1.1.2 ?_
        refine am_s_ic_ge dc182_1.1.2.1 rfl (fun _ => ?_) (fun z => absurd z (by decide))
        refine am_s_aload_n rfl dc182_1.2.1.2 ?_
        refine am_x_getI (x := ((((I 0 17) * 1103515245) + 12345) * 1103515245) + 12345) dc182_1.2.2.1 rfl rfl (Or.inl rfl) rfl ?_
        refine am_s_bipush am_cb16 dc182_1.2.2.2 ?_
        refine am_s_iushr dc182_2.1.1 ?_
        refine am_s_sipush am_cs32767 dc182_2.1.2.1 ?_
        refine am_s_iand dc182_2.1.2.2 ?_
        refine am_s_iload_n rfl dc182_2.2.1 ?_
        refine am_s_irem (by decide) dc182_2.2.2.1 ?_
        refine am_s_ireturn dc182_2.2.2.2 rfl (am_bkI ?_)
        refine am_s_iadd dc184_4.2.2.2 ?_
        exact am_s_virtual false dc184_5.1 rfl (by decide) rfl rfl rfl ((vi_f (vi_t (vi_f q c1) c2).2 c3))
      · refine am_s_aload_n rfl dc184_3.1.2.1 ?_
        refine am_s_getR (r := 140) dc184_3.1.2.2 rfl rfl rfl (hp _ _ _ rfl) ?_
        refine am_s_iload_n rfl dc184_3.2.1.1 ?_
        refine am_s_iconst am_cc1 dc184_3.2.1.2 ?_
        exact am_s_virtual false dc184_3.2.2.1 rfl (by decide) rfl rfl rfl ((vi_t (vi_t (vi_f q c1) c2).2 (Decidable.not_not.mp c3)))
    · refine am_s_iconst am_cc0 dc182_1.1.2.2 ?_
      refine am_s_goto rfl dc182_1.2.1.1 ?_
      refine am_s_ireturn dc182_2.2.2.2 rfl (am_bkI ?_)
      refine am_s_istore_n (ls' := [some (.ref 0), some (.int x1), some (.int 0)]) rfl rfl dc184_2.2.2.1 ?_
      refine am_s_iload_n rfl dc184_2.2.2.2 ?_
      refine am_s_iconst am_cc2 dc184_3.1.1.1 ?_
      refine am_s_ic_ne dc184_3.1.1.2 rfl (fun c3 => ?_) (fun c3 => ?_)
      · refine am_s_aload_n rfl dc184_4.1.1.1 ?_
        refine am_s_getR (r := 140) dc184_4.1.1.2 rfl rfl rfl (hp _ _ _ rfl) ?_
        refine am_s_iload_n rfl dc184_4.1.2.1 ?_
        refine am_s_bipush am_cb32 dc184_4.1.2.2 ?_
        refine am_s_aload_n rfl dc184_4.2.1.1 ?_
        refine am_s_bipush am_cb95 dc184_4.2.1.2 ?_
        refine am_s_virtual true dc184_4.2.2.1 rfl (by decide) rfl rfl rfl (am_mth_of rfl rfl ?_)
        refine am_s_aload_n rfl dc182_0.1.1.1 ?_
        refine am_s_aload_n rfl dc182_0.1.1.2 ?_
        refine am_x_getI (x := ((I 0 17) * 1103515245) + 12345) dc182_0.1.2.1 rfl rfl (Or.inl rfl) rfl ?_
        refine am_s_ldcw (x := 1103515245) dc182_0.1.2.2 rfl rfl rfl ?_
        refine am_s_imul dc182_0.2.1.1 ?_
        refine am_s_sipush am_cs12345 dc182_0.2.1.2 ?_
        refine am_s_iadd dc182_0.2.2.1 ?_
        refine am_s_putI dc182_0.2.2.2 rfl rfl rfl rfl ?_
        refine am_s_iload_n rfl dc182_1.1.1.1 ?_
        refine am_s_iconst am_cc1 dc182_1.1.1.2 ?_
        refine am_s_ic_ge dc182_1.1.2.1 rfl (fun _ => ?_) (fun z => absurd z (by decide))
        refine am_s_aload_n rfl dc182_1.2.1.2 ?_
        refine am_x_getI (x := ((((I 0 17) * 1103515245) + 12345) * 1103515245) + 12345) dc182_1.2.2.1 rfl rfl (Or.inl rfl) rfl ?_
        refine am_s_bipush am_cb16 dc182_1.2.2.2 ?_
        refine am_s_iushr dc182_2.1.1 ?_
        refine am_s_sipush am_cs32767 dc182_2.1.2.1 ?_
        refine am_s_iand dc182_2.1.2.2 ?_
        refine am_s_iload_n rfl dc182_2.2.1 ?_
        refine am_s_irem (by decide) dc182_2.2.2.1 ?_
        refine am_s_ireturn dc182_2.2.2.2 rfl (am_bkI ?_)
        refine am_s_iadd dc184_4.2.2.2 ?_
        exact am_s_virtual false dc184_5.1 rfl (by decide) rfl rfl rfl ((vi_f (vi_f (vi_f q c1) c2) c3))
      · refine am_s_aload_n rfl dc184_3.1.2.1 ?_
        refine am_s_getR (r := 140) dc184_3.1.2.2 rfl rfl rfl (hp _ _ _ rfl) ?_
        refine am_s_iload_n rfl dc184_3.2.1.1 ?_
        refine am_s_iconst am_cc1 dc184_3.2.1.2 ?_
        exact am_s_virtual false dc184_3.2.2.1 rfl (by decide) rfl rfl rfl ((vi_t (vi_f (vi_f q c1) c2) (Decidable.not_not.mp c3)))
  · refine am_s_aload_n rfl dc184_0.1.2.2 ?_
    refine am_s_bipush am_cb24 dc184_0.2.1.1 ?_
    refine am_s_virtual true dc184_0.2.1.2 rfl (by decide) rfl rfl rfl (am_mth_of rfl rfl ?_)
    refine am_s_aload_n rfl dc182_0.1.1.1 ?_
    refine am_s_aload_n rfl dc182_0.1.1.2 ?_
    refine am_x_getI (x := I 0 17) dc182_0.1.2.1 rfl rfl (Or.inl rfl) rfl ?_
    refine am_s_ldcw (x := 1103515245) dc182_0.1.2.2 rfl rfl rfl ?_
    refine am_s_imul dc182_0.2.1.1 ?_
    refine am_s_sipush am_cs12345 dc182_0.2.1.2 ?_
    refine am_s_iadd dc182_0.2.2.1 ?_
    refine am_s_putI dc182_0.2.2.2 rfl rfl rfl rfl ?_
    refine am_s_iload_n rfl dc182_1.1.1.1 ?_
    refine am_s_iconst am_cc1 dc182_1.1.1.2 ?_
    refine am_s_ic_ge dc182_1.1.2.1 rfl (fun _ => ?_) (fun z => absurd z (by decide))
    refine am_s_aload_n rfl dc182_1.2.1.2 ?_
    refine am_x_getI (x := ((I 0 17) * 1103515245) + 12345) dc182_1.2.2.1 rfl rfl (Or.inl rfl) rfl ?_
    refine am_s_bipush am_cb16 dc182_1.2.2.2 ?_
    refine am_s_iushr dc182_2.1.1 ?_
    refine am_s_sipush am_cs32767 dc182_2.1.2.1 ?_
    refine am_s_iand dc182_2.1.2.2 ?_
    refine am_s_iload_n rfl dc182_2.2.1 ?_
    refine am_s_irem (by decide) dc182_2.2.2.1 ?_
    refine am_s_ireturn dc182_2.2.2.2 rfl (am_bkI ?_)
    refine am_s_istore_n (ls' := [some (.ref 0), some (.int x1), some (.int (((UInt32.toInt32 (Int32.toUInt32 (((I 0 17) * 1103515245) + 12345) >>> (Int32.toUInt32 16 &&& Int32.toUInt32 31))) &&& 32767) - ((UInt32.toInt32 (Int32.toUInt32 (((I 0 17) * 1103515245) + 12345) >>> (Int32.toUInt32 16 &&& Int32.toUInt32 31))) &&& 32767) / 24 * 24))]) rfl rfl dc184_0.2.2.1 ?_
    refine am_s_aload_n rfl dc184_0.2.2.2 ?_
    refine am_s_getR (r := 140) dc184_1.1.1.1 rfl rfl rfl (hp _ _ _ rfl) ?_
    refine am_s_iload_n rfl dc184_1.1.1.2 ?_
    refine am_s_aload_n rfl dc184_1.1.2.1 ?_
    refine am_s_bipush am_cb24 dc184_1.1.2.2 ?_
    refine am_s_virtual true dc184_1.2.1.1 rfl (by decide) rfl rfl rfl (am_mth_of rfl rfl ?_)
    refine am_s_aload_n rfl dc182_0.1.1.1 ?_
    refine am_s_aload_n rfl dc182_0.1.1.2 ?_
    refine am_x_getI (x := ((I 0 17) * 1103515245) + 12345) dc182_0.1.2.1 rfl rfl (Or.inl rfl) rfl ?_
    refine am_s_ldcw (x := 1103515245) dc182_0.1.2.2 rfl rfl rfl ?_
    refine am_s_imul dc182_0.2.1.1 ?_
    refine am_s_sipush am_cs12345 dc182_0.2.1.2 ?_
    refine am_s_iadd dc182_0.2.2.1 ?_
    refine am_s_putI dc182_0.2.2.2 rfl rfl rfl rfl ?_
    refine am_s_iload_n rfl dc182_1.1.1.1 ?_
    refine am_s_iconst am_cc1 dc182_1.1.1.2 ?_
    refine am_s_ic_ge dc182_1.1.2.1 rfl (fun _ => ?_) (fun z => absurd z (by decide))
    refine am_s_aload_n rfl dc182_1.2.1.2 ?_
    refine am_x_getI (x := ((((I 0 17) * 1103515245) + 12345) * 1103515245) + 12345) dc182_1.2.2.1 rfl rfl (Or.inl rfl) rfl ?_
    refine am_s_bipush am_cb16 dc182_1.2.2.2 ?_
    refine am_s_iushr dc182_2.1.1 ?_
    refine am_s_sipush am_cs32767 dc182_2.1.2.1 ?_
    refine am_s_iand dc182_2.1.2.2 ?_
    refine am_s_iload_n rfl dc182_2.2.1 ?_
    refine am_s_irem (by decide) dc182_2.2.2.1 ?_
    refine am_s_ireturn dc182_2.2.2.2 rfl (am_bkI ?_)
    exact am_s_virtual false dc184_1.2.1.2 rfl (by decide) rfl rfl rfl ((vi_t q (Decidable.not_not.mp c1)))
theorem v184_26 {sc : Option (Nat × (Nat → Int32))} {d k n : Nat} {P : am_O → Prop} {I : am_I} {J : am_J} {Pf : am_R} (hp : am_PF Pf) {l0 : Option Value} {l1 : Option Value} {l2 : Option Value} {s0 : Int32} (q : (s0 = 0 ∨ s0 = 1) ∧ (P (.inl (some (.int s0)), (am_SH, I, J, Pf), k, n))) : am_go sc d 184 (26, [l0, l1, l2], [.int s0], (am_SH, I, J, Pf), k, n) P := by
  exact am_s_zreturn dc184_1.2.2.1 rfl (q.1) (q.2)
theorem v184_55 {sc : Option (Nat × (Nat → Int32))} {d k n : Nat} {P : am_O → Prop} {I : am_I} {J : am_J} {Pf : am_R} (hp : am_PF Pf) {l0 : Option Value} {l1 : Option Value} {l2 : Option Value} {s0 : Int32} (q : (s0 = 0 ∨ s0 = 1) ∧ (P (.inl (some (.int s0)), (am_SH, I, J, Pf), k, n))) : am_go sc d 184 (55, [l0, l1, l2], [.int s0], (am_SH, I, J, Pf), k, n) P := by
  exact am_s_zreturn dc184_3.2.2.2 rfl (q.1) (q.2)
theorem v184_73 {sc : Option (Nat × (Nat → Int32))} {d k n : Nat} {P : am_O → Prop} {I : am_I} {J : am_J} {Pf : am_R} (hp : am_PF Pf) {l0 : Option Value} {l1 : Option Value} {l2 : Option Value} {s0 : Int32} (q : (s0 = 0 ∨ s0 = 1) ∧ (P (.inl (some (.int s0)), (am_SH, I, J, Pf), k, n))) : am_go sc d 184 (73, [l0, l1, l2], [.int s0], (am_SH, I, J, Pf), k, n) P := by
  exact am_s_zreturn dc184_5.2 rfl (q.1) (q.2)
