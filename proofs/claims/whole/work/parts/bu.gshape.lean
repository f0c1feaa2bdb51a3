/-! The shapes before the law's own row is made: the reference's first work. Written by wip/whole/bu.py. -/
def am_SG : List am_K := [.inl 11, .inl 3, .inr (0, 600), .inl 1, .inr (9, 8), .inr (0, 8), .inr (0, 8), .inr (0, 8), .inl 6, .inl 6, .inl 6, .inl 6, .inl 6, .inl 6, .inl 6, .inl 6, .inl 4, .inr (9, 8), .inr (0, 20), .inr (1, 20), .inr (0, 20), .inr (0, 80), .inr (0, 80), .inr (0, 640), .inr (0, 4), .inr (0, 4), .inr (0, 12), .inr (0, 8), .inr (0, 8), .inr (0, 8), .inr (0, 8), .inl 7, .inr (0, 8), .inr (0, 8), .inr (0, 8), .inr (0, 8), .inr (9, 8), .inl 6, .inr (0, 127), .inl 6, .inl 6, .inl 6, .inl 6, .inl 6, .inl 6, .inl 6, .inl 6, .inl 6, .inl 6, .inl 6, .inl 6, .inl 6, .inl 6, .inl 6, .inl 6, .inl 4, .inr (9, 8), .inr (0, 20), .inr (1, 20), .inr (0, 20), .inr (0, 80), .inr (0, 80), .inr (0, 640), .inr (0, 4), .inr (0, 4), .inr (0, 12), .inr (0, 8), .inr (0, 8), .inr (0, 8), .inr (0, 8), .inl 7, .inr (0, 8), .inr (0, 8), .inr (0, 8), .inr (0, 8), .inr (9, 8), .inl 6, .inr (0, 127), .inl 6, .inl 6, .inl 6, .inl 6, .inl 6, .inl 6, .inl 6, .inl 6, .inl 6, .inl 6, .inl 6, .inl 6, .inl 6, .inl 6, .inl 6, .inl 6, .inl 2, .inr (0, 150), .inr (0, 150), .inr (0, 150), .inl 2, .inr (0, 150), .inr (0, 150), .inr (0, 150), .inl 8, .inr (0, 150), .inr (0, 150), .inr (0, 150), .inr (0, 1200), .inr (0, 7), .inl 5, .inr (0, 408), .inr (0, 17), .inr (8, 3), .inl 0, .inr (12, 3), .inr (0, 8), .inr (0, 8), .inr (0, 12), .inl 6, .inr (2, 768), .inr (0, 256), .inl 9, .inr (0, 24), .inr (0, 25), .inr (0, 200), .inr (0, 100), .inl 9, .inr (0, 24), .inr (0, 25), .inr (0, 200), .inr (0, 100), .inl 9, .inr (0, 24), .inr (0, 25), .inr (0, 200), .inr (0, 100), .inl 9, .inr (0, 24), .inr (0, 25), .inr (0, 200), .inr (0, 100), .inl 9, .inr (0, 24), .inr (0, 25), .inr (0, 200), .inr (0, 100), .inl 10, .inr (0, 5000), .inr (0, 200), .inr (0, 200), .inr (0, 1200), .inr (0, 2404), .inr (0, 4), .inr (0, 25), .inr (0, 25), .inl 5, .inr (0, 408), .inr (0, 17), .inl 5, .inr (0, 408), .inr (0, 17), .inl 5, .inr (0, 408), .inr (0, 17), .inl 12, .inr (0, 2), .inr (0, 600), .inr (0, 1040), .inr (0, 1040), .inr (0, 600), .inr (0, 8), .inr (0, 8), .inr (0, 8), .inr (0, 150), .inr (0, 150), .inr (0, 150), .inr (0, 150), .inr (0, 150), .inr (0, 6), .inr (0, 600), .inr (0, 600), .inr (0, 25), .inr (0, 25), .inr (0, 400), .inr (0, 125), .inr (0, 20000), .inr (0, 384), .inr (1, 384), .inr (0, 16200), .inr (0, 25), .inr (0, 25), .inr (1, 8), .inr (0, 24), .inr (0, 25), .inr (0, 25), .inr (0, 200), .inr (0, 200), .inr (0, 200), .inr (0, 200), .inr (0, 2412), .inr (0, 15), .inr (0, 1), .inr (0, 1278)]
theorem am_backG {sc : Option (Nat × (Nat → Int32))} {d y pc k n k' n' : Nat} {ls : am_L} {st r : List Value} {I I' : am_I} {J J' : am_J} {Pf Pf' : am_R} {thr : Bool} {P : am_O → Prop} {v : Option Value} (h : am_go sc d y (pc + 3, ls, v.toList ++ r, (am_SG, I', J', Pf'), k + k', n + n') P) : am_af sc d y pc ls st r (am_SG, I, J, Pf) k n thr P (.inl v, (am_SG, I', J', Pf'), k', n') := by
  refine ⟨?_, h⟩
  show (Nat.beq am_SG.length am_SG.length || _) = true
  rw [Nat.beq_refl]
  rfl
theorem v207_0G {sc : Option (Nat × (Nat → Int32))} {d k n : Nat} {P : am_O → Prop} {I : am_I} {J : am_J} {Pf : am_R} (hp : am_PF Pf) {l0 : Option Value} {x1 : Nat} {Lx1 : Nat} (hx1 : am_SG[x1]? = some (.inr (0, Lx1))) {x2 : Nat} {Lx2 : Nat} (hx2 : am_SG[x2]? = some (.inr (0, Lx2))) {x3 : Int32} {l4 : Option Value} (q : (am_go sc d 207 (3, [l0, some (.ref x1), some (.ref x2), some (.int x3), some (.int 0)], [], (am_SG, I, J, Pf), k, n) P)) : am_go sc d 207 (0, [l0, some (.ref x1), some (.ref x2), some (.int x3), l4], [], (am_SG, I, J, Pf), k, n) P := by
  refine am_s_iconst am_cc0 dc207_0.1.1.1 ?_
  refine am_s_istore (ls' := [l0, some (.ref x1), some (.ref x2), some (.int x3), some (.int 0)]) rfl rfl dc207_0.1.1.2 ?_
  exact q
theorem v207_3G {sc : Option (Nat × (Nat → Int32))} {d k n : Nat} {P : am_O → Prop} {I : am_I} {J : am_J} {Pf : am_R} (hp : am_PF Pf) {l0 : Option Value} {x1 : Nat} {Lx1 : Nat} (hx1 : am_SG[x1]? = some (.inr (0, Lx1))) {x2 : Nat} {Lx2 : Nat} (hx2 : am_SG[x2]? = some (.inr (0, Lx2))) {x3 : Int32} {x4 : Int32} (q : (if x3 ≤ x4 then (P (.inl none, (am_SG, I, J, Pf), k, n)) else (am_in x4 Lx1 = true) ∧ (am_in x4 Lx2 = true) ∧ (am_go sc d 207 (3, [l0, some (.ref x1), some (.ref x2), some (.int x3), some (.int (x4 + 1))], [], (am_SG, am_u I x2 (Int32.toNatClampNeg x4) (I x1 (Int32.toNatClampNeg x4)), J, Pf), k, n) P))) : am_go sc d 207 (3, [l0, some (.ref x1), some (.ref x2), some (.int x3), some (.int x4)], [], (am_SG, I, J, Pf), k, n) P := by
  refine am_s_iload rfl dc207_0.1.2.1 ?_
  refine am_s_iload_n rfl dc207_0.1.2.2 ?_
  refine am_s_ic_ge dc207_0.2.1.1 rfl (fun c1 => ?_) (fun c1 => ?_)
  · exact am_s_return dc207_1.2.2.2 rfl ((vi_t q c1))
  · refine am_s_aload_n rfl dc207_0.2.1.2 ?_
    refine am_s_iload rfl dc207_0.2.2.1 ?_
    refine am_s_aload_n rfl dc207_0.2.2.2 ?_
    refine am_s_iload rfl dc207_1.1.1 ?_
    refine am_x_iaload (x := I x1 (Int32.toNatClampNeg x4)) dc207_1.1.2.1 hx1 ((vi_f q c1).1) rfl rfl ?_
    refine am_s_iastore dc207_1.1.2.2 hx2 ((vi_f q c1).2.1) rfl ?_
    refine am_s_iinc (ls' := [l0, some (.ref x1), some (.ref x2), some (.int x3), some (.int (x4 + 1))]) am_cc1 rfl rfl dc207_1.2.1 ?_
    refine am_s_goto rfl dc207_1.2.2.1 ?_
    exact (vi_f q c1).2.2
-- clears ()V
theorem v208_0G {sc : Option (Nat × (Nat → Int32))} {d k n : Nat} {P : am_O → Prop} {I : am_I} {J : am_J} {Pf : am_R} (hp : am_PF Pf) {l1 : Option Value} (q : (am_go sc d 208 (2, [some (.ref 163), some (.int 0)], [], (am_SG, I, J, Pf), k, n) P)) : am_go sc d 208 (0, [some (.ref 163), l1], [], (am_SG, I, J, Pf), k, n) P := by
  refine am_s_iconst am_cc0 dc208_0.1.1.1 ?_
  refine am_s_istore_n (ls' := [some (.ref 163), some (.int 0)]) rfl rfl dc208_0.1.1.2 ?_
  exact q
theorem v208_2G {sc : Option (Nat × (Nat → Int32))} {d k n : Nat} {P : am_O → Prop} {I : am_I} {J : am_J} {Pf : am_R} (hp : am_PF Pf) {x1 : Int32} (q : (if 1040 ≤ x1 then (P (.inl none, (am_SG, am_u I 166 5 (-1), J, Pf), k, n)) else (am_in x1 1040 = true) ∧ (am_go sc d 208 (2, [some (.ref 163), some (.int (x1 + 1))], [], (am_SG, am_u I 166 (Int32.toNatClampNeg x1) 0, J, Pf), k, n) P))) : am_go sc d 208 (2, [some (.ref 163), some (.int x1)], [], (am_SG, I, J, Pf), k, n) P := by
  refine am_s_iload_n rfl dc208_0.1.2.1 ?_
  refine am_s_sipush am_cs1040 dc208_0.1.2.2 ?_
  refine am_s_ic_ge dc208_0.2.1.1 rfl (fun c1 => ?_) (fun c1 => ?_)
  · refine am_s_aload_n rfl dc208_1.2.1.1 ?_
    refine am_s_getR (r := 166) dc208_1.2.1.2 rfl rfl rfl (hp _ _ _ rfl) ?_
    refine am_s_iconst am_cc5 dc208_1.2.2.1 ?_
    refine am_s_iconst am_ccm1 dc208_1.2.2.2 ?_
    refine am_s_iastore dc208_2.1 rfl (by decide +kernel) am_cN5 ?_
    exact am_s_return dc208_2.2 rfl ((vi_t q c1))
  · refine am_s_aload_n rfl dc208_0.2.1.2 ?_
    refine am_s_getR (r := 166) dc208_0.2.2.1 rfl rfl rfl (hp _ _ _ rfl) ?_
    refine am_s_iload_n rfl dc208_0.2.2.2 ?_
    refine am_s_iconst am_cc0 dc208_1.1.1.1 ?_
    refine am_s_iastore dc208_1.1.1.2 rfl ((vi_f q c1).1) rfl ?_
    refine am_s_iinc (ls' := [some (.ref 163), some (.int (x1 + 1))]) am_cc1 rfl rfl dc208_1.1.2.1 ?_
    refine am_s_goto rfl dc208_1.1.2.2 ?_
    exact (vi_f q c1).2
-- sets ()V
theorem v209_0G {sc : Option (Nat × (Nat → Int32))} {d k n : Nat} {P : am_O → Prop} {I : am_I} {J : am_J} {Pf : am_R} (hp : am_PF Pf) {l1 : Option Value} (q : (am_mth d 207 [.ref 163, .ref 166, .ref 167, .int 1040] (am_SG, I, J, Pf) (am_af sc d 209 12 [some (.ref 163), l1] [.int 1040, .ref 167, .ref 166, .ref 163] [] (am_SG, I, J, Pf) k n true P))) : am_go sc d 209 (0, [some (.ref 163), l1], [], (am_SG, I, J, Pf), k, n) P := by
  refine am_s_aload_n rfl dc209_0.1.1.1 ?_
  refine am_s_aload_n rfl dc209_0.1.1.2 ?_
  refine am_s_getR (r := 166) dc209_0.1.2.1 rfl rfl rfl (hp _ _ _ rfl) ?_
  refine am_s_aload_n rfl dc209_0.1.2.2 ?_
  refine am_s_getR (r := 167) dc209_0.2.1.1 rfl rfl rfl (hp _ _ _ rfl) ?_
  refine am_s_sipush am_cs1040 dc209_0.2.1.2 ?_
  exact am_s_virtual true dc209_0.2.2.1 rfl (by decide) rfl rfl rfl (q)
theorem v209_47G {sc : Option (Nat × (Nat → Int32))} {d k n : Nat} {P : am_O → Prop} {I : am_I} {J : am_J} {Pf : am_R} (hp : am_PF Pf) {x1 : Int32} (q : (if 25 ≤ x1 then (am_mth d 231 [.ref 163, .ref 167] (am_SG, I, J, Pf) (am_af sc d 209 71 [some (.ref 163), some (.int x1)] [.ref 167, .ref 163] [] (am_SG, I, J, Pf) k n true P)) else (am_in x1 25 = true) ∧ (am_go sc d 209 (47, [some (.ref 163), some (.int (x1 + 1))], [], (am_SG, am_u I 180 (Int32.toNatClampNeg x1) 0, J, Pf), k, n) P))) : am_go sc d 209 (47, [some (.ref 163), some (.int x1)], [], (am_SG, I, J, Pf), k, n) P := by
  refine am_s_iload_n rfl dc209_3.1.2.2 ?_
  refine am_s_bipush am_cb25 dc209_3.2.1.1 ?_
  refine am_s_ic_ge dc209_3.2.1.2 rfl (fun c1 => ?_) (fun c1 => ?_)
  · refine am_s_aload_n rfl dc209_4.2.1.2 ?_
    refine am_s_aload_n rfl dc209_4.2.2.1 ?_
    refine am_s_getR (r := 167) dc209_4.2.2.2 rfl rfl rfl (hp _ _ _ rfl) ?_
    exact am_s_virtual true dc209_5.1 rfl (by decide) rfl rfl rfl ((vi_t q c1))
  · refine am_s_aload_n rfl dc209_3.2.2.1 ?_
    refine am_s_getR (r := 180) dc209_3.2.2.2 rfl rfl rfl (hp _ _ _ rfl) ?_
    refine am_s_iload_n rfl dc209_4.1.1.1 ?_
    refine am_s_iconst am_cc0 dc209_4.1.1.2 ?_
    refine am_s_iastore dc209_4.1.2.1 rfl ((vi_f q c1).1) rfl ?_
    refine am_s_iinc (ls' := [some (.ref 163), some (.int (x1 + 1))]) am_cc1 rfl rfl dc209_4.1.2.2 ?_
    refine am_s_goto rfl dc209_4.2.1.1 ?_
    exact (vi_f q c1).2
theorem v209_15G {sc : Option (Nat × (Nat → Int32))} {d k n : Nat} {P : am_O → Prop} {I : am_I} {J : am_J} {Pf : am_R} (hp : am_PF Pf) {l1 : Option Value} (q : (am_go sc d 209 (47, [some (.ref 163), some (.int 0)], [], (am_SG, am_u (am_u (am_u (am_u (am_u (am_u I 163 29 0) 163 34 0) 163 65 0) 163 35 0) 163 48 0) 163 46 0, J, Pf), k, n) P)) : am_go sc d 209 (15, [some (.ref 163), l1], [], (am_SG, I, J, Pf), k, n) P := by
  refine am_s_aload_n rfl dc209_0.2.2.2 ?_
  refine am_s_iconst am_cc0 dc209_1.1.1.1 ?_
  refine am_s_putI dc209_1.1.1.2 rfl rfl rfl rfl ?_
  refine am_s_aload_n rfl dc209_1.1.2.1 ?_
  refine am_s_iconst am_cc0 dc209_1.1.2.2 ?_
  refine am_s_putI dc209_1.2.1.1 rfl rfl rfl rfl ?_
  refine am_s_aload_n rfl dc209_1.2.1.2 ?_
  refine am_s_iconst am_cc0 dc209_1.2.2.1 ?_
  refine am_s_putI dc209_1.2.2.2 rfl rfl rfl rfl ?_
  refine am_s_aload_n rfl dc209_2.1.1.1 ?_
  refine am_s_iconst am_cc0 dc209_2.1.1.2 ?_
  refine am_s_putI dc209_2.1.2.1 rfl rfl rfl rfl ?_
  refine am_s_aload_n rfl dc209_2.1.2.2 ?_
  refine am_s_iconst am_cc0 dc209_2.2.1.1 ?_
  refine am_s_putI dc209_2.2.1.2 rfl rfl rfl rfl ?_
  refine am_s_aload_n rfl dc209_2.2.2.1 ?_
  refine am_s_iconst am_cc0 dc209_2.2.2.2 ?_
  refine am_s_putZ dc209_3.1.1.1 rfl rfl rfl rfl (by decide) ?_
  refine am_s_iconst am_cc0 dc209_3.1.1.2 ?_
  refine am_s_istore_n (ls' := [some (.ref 163), some (.int 0)]) rfl rfl dc209_3.1.2.1 ?_
  exact q
theorem v209_74G {sc : Option (Nat × (Nat → Int32))} {d k n : Nat} {P : am_O → Prop} {I : am_I} {J : am_J} {Pf : am_R} (hp : am_PF Pf) {l0 : Option Value} {l1 : Option Value} (q : (P (.inl none, (am_SG, I, J, Pf), k, n))) : am_go sc d 209 (74, [l0, l1], [], (am_SG, I, J, Pf), k, n) P := by
  exact am_s_return dc209_5.2 rfl (q)
-- raw ()I
theorem v230_0G {sc : Option (Nat × (Nat → Int32))} {d k n : Nat} {P : am_O → Prop} {I : am_I} {J : am_J} {Pf : am_R} (hp : am_PF Pf) {x1 : Nat} {Lx1 : Nat} (hx1 : am_SG[x1]? = some (.inr (0, Lx1))) {l2 : Option Value} {l3 : Option Value} {l4 : Option Value} (q : (am_go sc d 230 (2, [some (.ref 163), some (.ref x1), some (.int 0), l3, l4], [], (am_SG, I, J, Pf), k, n) P)) : am_go sc d 230 (0, [some (.ref 163), some (.ref x1), l2, l3, l4], [], (am_SG, I, J, Pf), k, n) P := by
  refine am_s_iconst am_cc0 dc230_0.1.1.1 ?_
  refine am_s_istore_n (ls' := [some (.ref 163), some (.ref x1), some (.int 0), l3, l4]) rfl rfl dc230_0.1.1.2 ?_
  exact q
theorem v230_2G {sc : Option (Nat × (Nat → Int32))} {d k n : Nat} {P : am_O → Prop} {I : am_I} {J : am_J} {Pf : am_R} (hp : am_PF Pf) {x1 : Nat} {Lx1 : Nat} (hx1 : am_SG[x1]? = some (.inr (0, Lx1))) {x2 : Int32} {l3 : Option Value} {l4 : Option Value} (q : (if 8 ≤ x2 then (am_go sc d 230 (23, [some (.ref 163), some (.ref x1), some (.int 0), l3, l4], [], (am_SG, I, J, Pf), k, n) P) else (am_in x2 8 = true) ∧ (am_go sc d 230 (2, [some (.ref 163), some (.ref x1), some (.int (x2 + 1)), l3, l4], [], (am_SG, am_u I 169 (Int32.toNatClampNeg x2) 0, J, Pf), k, n) P))) : am_go sc d 230 (2, [some (.ref 163), some (.ref x1), some (.int x2), l3, l4], [], (am_SG, I, J, Pf), k, n) P := by
  refine am_s_iload_n rfl dc230_0.1.2.1 ?_
  refine am_s_bipush am_cb8 dc230_0.1.2.2 ?_
  refine am_s_ic_ge dc230_0.2.1.1 rfl (fun c1 => ?_) (fun c1 => ?_)
  · refine am_s_iconst am_cc0 dc230_1.2.1.1 ?_
    refine am_s_istore_n (ls' := [some (.ref 163), some (.ref x1), some (.int 0), l3, l4]) rfl rfl dc230_1.2.1.2 ?_
    exact (vi_t q c1)
  · refine am_s_aload_n rfl dc230_0.2.1.2 ?_
    refine am_s_getR (r := 169) dc230_0.2.2.1 rfl rfl rfl (hp _ _ _ rfl) ?_
    refine am_s_iload_n rfl dc230_0.2.2.2 ?_
    refine am_s_iconst am_cc0 dc230_1.1.1.1 ?_
    refine am_s_iastore dc230_1.1.1.2 rfl ((vi_f q c1).1) rfl ?_
    refine am_s_iinc (ls' := [some (.ref 163), some (.ref x1), some (.int (x2 + 1)), l3, l4]) am_cc1 rfl rfl dc230_1.1.2.1 ?_
    refine am_s_goto rfl dc230_1.1.2.2 ?_
    exact (vi_f q c1).2
theorem v230_23G {sc : Option (Nat × (Nat → Int32))} {d k n : Nat} {P : am_O → Prop} {I : am_I} {J : am_J} {Pf : am_R} (hp : am_PF Pf) {x1 : Nat} {Lx1 : Nat} (hx1 : am_SG[x1]? = some (.inr (0, Lx1))) {x2 : Int32} {l3 : Option Value} {l4 : Option Value} (q : (am_in 1 Lx1 = true) ∧ (if (I x1 (Int32.toNatClampNeg 1)) ≤ x2 then (am_go sc d 230 (105, [some (.ref 163), some (.ref x1), some (.int 0), l3, l4], [], (am_SG, I, J, Pf), k, n) P) else (am_go sc d 230 (32, [some (.ref 163), some (.ref x1), some (.int x2), some (.int 0), l4], [], (am_SG, I, J, Pf), k, n) P))) : am_go sc d 230 (23, [some (.ref 163), some (.ref x1), some (.int x2), l3, l4], [], (am_SG, I, J, Pf), k, n) P := by
  refine am_s_iload_n rfl dc230_1.2.2.1 ?_
  refine am_s_aload_n rfl dc230_1.2.2.2 ?_
  refine am_s_iconst am_cc1 dc230_2.1.1.1 ?_
  refine am_x_iaload (x := I x1 (Int32.toNatClampNeg 1)) dc230_2.1.1.2 hx1 (q.1) rfl rfl ?_
  refine am_s_ic_ge dc230_2.1.2.1 rfl (fun c1 => ?_) (fun c1 => ?_)
  · refine am_s_iconst am_cc0 dc230_8.2.2.2 ?_
    refine am_s_istore_n (ls' := [some (.ref 163), some (.ref x1), some (.int 0), l3, l4]) rfl rfl dc230_9.1.1.1 ?_
    exact (vi_t q.2 c1)
  · refine am_s_iconst am_cc0 dc230_2.1.2.2 ?_
    refine am_s_istore_n (ls' := [some (.ref 163), some (.ref x1), some (.int x2), some (.int 0), l4]) rfl rfl dc230_2.2.1.1 ?_
    exact (vi_f q.2 c1)
theorem v230_32G {sc : Option (Nat × (Nat → Int32))} {d k n : Nat} {P : am_O → Prop} {I : am_I} {J : am_J} {Pf : am_R} (hp : am_PF Pf) {x1 : Nat} {Lx1 : Nat} (hx1 : am_SG[x1]? = some (.inr (0, Lx1))) {x2 : Int32} {x3 : Int32} {l4 : Option Value} (q : (am_in ((32 + (3 * x2)) + 2) Lx1 = true) ∧ (if (I x1 (Int32.toNatClampNeg ((32 + (3 * x2)) + 2))) ≤ x3 then (am_go sc d 230 (23, [some (.ref 163), some (.ref x1), some (.int (x2 + 1)), some (.int x3), l4], [], (am_SG, I, J, Pf), k, n) P) else (am_in (92 + (((4 * x2) + x3) * 11)) Lx1 = true) ∧ (if (I x1 (Int32.toNatClampNeg (92 + (((4 * x2) + x3) * 11)))) = 1 then (am_in (32 + (3 * x2)) Lx1 = true) ∧ (am_in (I x1 (Int32.toNatClampNeg (32 + (3 * x2)))) 8 = true) ∧ (am_in ((92 + (((4 * x2) + x3) * 11)) + 1) Lx1 = true) ∧ (am_in (I x1 (Int32.toNatClampNeg (32 + (3 * x2)))) 8 = true) ∧ (am_go sc d 230 (32, [some (.ref 163), some (.ref x1), some (.int x2), some (.int (x3 + 1)), some (.int (92 + (((4 * x2) + x3) * 11)))], [], (am_SG, am_u I 169 (Int32.toNatClampNeg (I x1 (Int32.toNatClampNeg (32 + (3 * x2))))) ((I 169 (Int32.toNatClampNeg (I x1 (Int32.toNatClampNeg (32 + (3 * x2)))))) ||| ((1 : Int32) <<< ((I x1 (Int32.toNatClampNeg ((92 + (((4 * x2) + x3) * 11)) + 1))) &&& 31))), J, Pf), k, n) P) else (am_go sc d 230 (32, [some (.ref 163), some (.ref x1), some (.int x2), some (.int (x3 + 1)), some (.int (92 + (((4 * x2) + x3) * 11)))], [], (am_SG, I, J, Pf), k, n) P)))) : am_go sc d 230 (32, [some (.ref 163), some (.ref x1), some (.int x2), some (.int x3), l4], [], (am_SG, I, J, Pf), k, n) P := by
  refine am_s_iload_n rfl dc230_2.2.1.2 ?_
  refine am_s_aload_n rfl dc230_2.2.2.1 ?_
  refine am_s_bipush am_cb32 dc230_2.2.2.2 ?_
  refine am_s_iconst am_cc3 dc230_3.1.1.1 ?_
  refine am_s_iload_n rfl dc230_3.1.1.2 ?_
  refine am_s_imul dc230_3.1.2.1 ?_
  refine am_s_iadd dc230_3.1.2.2 ?_
  refine am_s_iconst am_cc2 dc230_3.2.1.1 ?_
  refine am_s_iadd dc230_3.2.1.2 ?_
  refine am_x_iaload (x := I x1 (Int32.toNatClampNeg ((32 + (3 * x2)) + 2))) dc230_3.2.2.1 hx1 (q.1) rfl rfl ?_
  refine am_s_ic_ge dc230_3.2.2.2 rfl (fun c1 => ?_) (fun c1 => ?_)
  · refine am_s_iinc (ls' := [some (.ref 163), some (.ref x1), some (.int (x2 + 1)), some (.int x3), l4]) am_cc1 rfl rfl dc230_8.2.1.2 ?_
    refine am_s_goto rfl dc230_8.2.2.1 ?_
    exact (vi_t q.2 c1)
  · refine am_s_bipush am_cb92 dc230_4.1.1.1 ?_
    refine am_s_iconst am_cc4 dc230_4.1.1.2 ?_
    refine am_s_iload_n rfl dc230_4.1.2.1 ?_
    refine am_s_imul dc230_4.1.2.2 ?_
    refine am_s_iload_n rfl dc230_4.2.1.1 ?_
    refine am_s_iadd dc230_4.2.1.2 ?_
    refine am_s_bipush am_cb11 dc230_4.2.2.1 ?_
    refine am_s_imul dc230_4.2.2.2 ?_
    refine am_s_iadd dc230_5.1.1.1 ?_
    refine am_s_istore (ls' := [some (.ref 163), some (.ref x1), some (.int x2), some (.int x3), some (.int (92 + (((4 * x2) + x3) * 11)))]) rfl rfl dc230_5.1.1.2 ?_
    refine am_s_aload_n rfl dc230_5.1.2.1 ?_
    refine am_s_iload rfl dc230_5.1.2.2 ?_
    refine am_x_iaload (x := I x1 (Int32.toNatClampNeg (92 + (((4 * x2) + x3) * 11)))) dc230_5.2.1.1 hx1 ((vi_f q.2 c1).1) rfl rfl ?_
    refine am_s_iconst am_cc1 dc230_5.2.1.2 ?_
    refine am_s_ic_ne dc230_5.2.2.1 rfl (fun c2 => ?_) (fun c2 => ?_)
    · refine am_s_iinc (ls' := [some (.ref 163), some (.ref x1), some (.int x2), some (.int (x3 + 1)), some (.int (92 + (((4 * x2) + x3) * 11)))]) am_cc1 rfl rfl dc230_8.1.2.2 ?_
      refine am_s_goto rfl dc230_8.2.1.1 ?_
      exact (vi_f (vi_f q.2 c1).2 c2)
    · refine am_s_aload_n rfl dc230_5.2.2.2 ?_
      refine am_s_getR (r := 169) dc230_6.1.1.1 rfl rfl rfl (hp _ _ _ rfl) ?_
      refine am_s_aload_n rfl dc230_6.1.1.2 ?_
      refine am_s_bipush am_cb32 dc230_6.1.2.1 ?_
      refine am_s_iconst am_cc3 dc230_6.1.2.2 ?_
      refine am_s_iload_n rfl dc230_6.2.1.1 ?_
      refine am_s_imul dc230_6.2.1.2 ?_
      refine am_s_iadd dc230_6.2.2.1 ?_
      refine am_x_iaload (x := I x1 (Int32.toNatClampNeg (32 + (3 * x2)))) dc230_6.2.2.2 hx1 ((vi_t (vi_f q.2 c1).2 (Decidable.not_not.mp c2)).1) rfl rfl ?_
      refine am_s_dup2 rfl rfl dc230_7.1.1.1 ?_
      refine am_x_iaload (x := I 169 (Int32.toNatClampNeg (I x1 (Int32.toNatClampNeg (32 + (3 * x2)))))) dc230_7.1.1.2 rfl ((vi_t (vi_f q.2 c1).2 (Decidable.not_not.mp c2)).2.1) rfl rfl ?_
      refine am_s_iconst am_cc1 dc230_7.1.2.1 ?_
      refine am_s_aload_n rfl dc230_7.1.2.2 ?_
      refine am_s_iload rfl dc230_7.2.1.1 ?_
      refine am_s_iconst am_cc1 dc230_7.2.1.2 ?_
      refine am_s_iadd dc230_7.2.2.1 ?_
      refine am_x_iaload (x := I x1 (Int32.toNatClampNeg ((92 + (((4 * x2) + x3) * 11)) + 1))) dc230_7.2.2.2 hx1 ((vi_t (vi_f q.2 c1).2 (Decidable.not_not.mp c2)).2.2.1) rfl rfl ?_
      refine am_s_ishl dc230_8.1.1.1 ?_
      refine am_s_ior dc230_8.1.1.2 ?_
      refine am_s_iastore dc230_8.1.2.1 rfl ((vi_t (vi_f q.2 c1).2 (Decidable.not_not.mp c2)).2.2.2.1) rfl ?_
      refine am_s_iinc (ls' := [some (.ref 163), some (.ref x1), some (.int x2), some (.int (x3 + 1)), some (.int (92 + (((4 * x2) + x3) * 11)))]) am_cc1 rfl rfl dc230_8.1.2.2 ?_
      refine am_s_goto rfl dc230_8.2.1.1 ?_
      exact (vi_t (vi_f q.2 c1).2 (Decidable.not_not.mp c2)).2.2.2.2
theorem v230_105G {sc : Option (Nat × (Nat → Int32))} {d k n : Nat} {P : am_O → Prop} {I : am_I} {J : am_J} {Pf : am_R} (hp : am_PF Pf) {x1 : Nat} {Lx1 : Nat} (hx1 : am_SG[x1]? = some (.inr (0, Lx1))) {x2 : Int32} {l3 : Option Value} {l4 : Option Value} (q : (am_in 2 Lx1 = true) ∧ (if (I x1 (Int32.toNatClampNeg 2)) ≤ x2 then (P (.inl none, (am_SG, I, J, Pf), k, n)) else (am_in (972 + (5 * x2)) Lx1 = true) ∧ (am_in (I x1 (Int32.toNatClampNeg (972 + (5 * x2)))) 8 = true) ∧ (am_in ((972 + (5 * x2)) + 1) Lx1 = true) ∧ (am_in (I x1 (Int32.toNatClampNeg (972 + (5 * x2)))) 8 = true) ∧ (am_go sc d 230 (105, [some (.ref 163), some (.ref x1), some (.int (x2 + 1)), l3, l4], [], (am_SG, am_u I 169 (Int32.toNatClampNeg (I x1 (Int32.toNatClampNeg (972 + (5 * x2))))) ((I 169 (Int32.toNatClampNeg (I x1 (Int32.toNatClampNeg (972 + (5 * x2)))))) ||| ((1 : Int32) <<< ((I x1 (Int32.toNatClampNeg ((972 + (5 * x2)) + 1))) &&& 31))), J, Pf), k, n) P))) : am_go sc d 230 (105, [some (.ref 163), some (.ref x1), some (.int x2), l3, l4], [], (am_SG, I, J, Pf), k, n) P := by
  refine am_s_iload_n rfl dc230_9.1.1.2 ?_
  refine am_s_aload_n rfl dc230_9.1.2.1 ?_
  refine am_s_iconst am_cc2 dc230_9.1.2.2 ?_
  refine am_x_iaload (x := I x1 (Int32.toNatClampNeg 2)) dc230_9.2.1.1 hx1 (q.1) rfl rfl ?_
  refine am_s_ic_ge dc230_9.2.1.2 rfl (fun c1 => ?_) (fun c1 => ?_)
  · exact am_s_return dc230_13 rfl ((vi_t q.2 c1))
  · refine am_s_aload_n rfl dc230_9.2.2.1 ?_
    refine am_s_getR (r := 169) dc230_9.2.2.2 rfl rfl rfl (hp _ _ _ rfl) ?_
    refine am_s_aload_n rfl dc230_10.1.1.1 ?_
    refine am_s_sipush am_cs972 dc230_10.1.1.2 ?_
    refine am_s_iconst am_cc5 dc230_10.1.2.1 ?_
    refine am_s_iload_n rfl dc230_10.1.2.2 ?_
    refine am_s_imul dc230_10.2.1.1 ?_
    refine am_s_iadd dc230_10.2.1.2 ?_
    refine am_x_iaload (x := I x1 (Int32.toNatClampNeg (972 + (5 * x2)))) dc230_10.2.2.1 hx1 ((vi_f q.2 c1).1) rfl rfl ?_
    refine am_s_dup2 rfl rfl dc230_10.2.2.2 ?_
    refine am_x_iaload (x := I 169 (Int32.toNatClampNeg (I x1 (Int32.toNatClampNeg (972 + (5 * x2)))))) dc230_11.1.1.1 rfl ((vi_f q.2 c1).2.1) rfl rfl ?_
    refine am_s_iconst am_cc1 dc230_11.1.1.2 ?_
    refine am_s_aload_n rfl dc230_11.1.2.1 ?_
    refine am_s_sipush am_cs972 dc230_11.1.2.2 ?_
    refine am_s_iconst am_cc5 dc230_11.2.1.1 ?_
    refine am_s_iload_n rfl dc230_11.2.1.2 ?_
    refine am_s_imul dc230_11.2.2.1 ?_
    refine am_s_iadd dc230_11.2.2.2 ?_
    refine am_s_iconst am_cc1 dc230_12.1.1.1 ?_
    refine am_s_iadd dc230_12.1.1.2 ?_
    refine am_x_iaload (x := I x1 (Int32.toNatClampNeg ((972 + (5 * x2)) + 1))) dc230_12.1.2.1 hx1 ((vi_f q.2 c1).2.2.1) rfl rfl ?_
    refine am_s_ishl dc230_12.1.2.2 ?_
    refine am_s_ior dc230_12.2.1.1 ?_
    refine am_s_iastore dc230_12.2.1.2 rfl ((vi_f q.2 c1).2.2.2.1) rfl ?_
    refine am_s_iinc (ls' := [some (.ref 163), some (.ref x1), some (.int (x2 + 1)), l3, l4]) am_cc1 rfl rfl dc230_12.2.2.1 ?_
    refine am_s_goto rfl dc230_12.2.2.2 ?_
    exact (vi_f q.2 c1).2.2.2.2
-- laysSorts ([I)V
theorem v231_0G {sc : Option (Nat × (Nat → Int32))} {d k n : Nat} {P : am_O → Prop} {I : am_I} {J : am_J} {Pf : am_R} (hp : am_PF Pf) {x1 : Nat} {Lx1 : Nat} (hx1 : am_SG[x1]? = some (.inr (0, Lx1))) {l2 : Option Value} {l3 : Option Value} {l4 : Option Value} {l5 : Option Value} (q : (am_mth d 230 [.ref 163, .ref x1] (am_SG, I, J, Pf) (am_af sc d 231 2 [some (.ref 163), some (.ref x1), l2, l3, l4, l5] [.ref x1, .ref 163] [] (am_SG, I, J, Pf) k n true P))) : am_go sc d 231 (0, [some (.ref 163), some (.ref x1), l2, l3, l4, l5], [], (am_SG, I, J, Pf), k, n) P := by
  refine am_s_aload_n rfl dc231_0.1.1.1 ?_
  refine am_s_aload_n rfl dc231_0.1.1.2 ?_
  exact am_s_virtual true dc231_0.1.2.1 rfl (by decide) rfl rfl rfl (q)
theorem v231_7G {sc : Option (Nat × (Nat → Int32))} {d k n : Nat} {P : am_O → Prop} {I : am_I} {J : am_J} {Pf : am_R} (hp : am_PF Pf) {x1 : Nat} {Lx1 : Nat} (hx1 : am_SG[x1]? = some (.inr (0, Lx1))) {x2 : Int32} {l3 : Option Value} {l4 : Option Value} {l5 : Option Value} (q : (if 8 ≤ x2 then (am_go sc d 231 (40, [some (.ref 163), some (.ref x1), some (.int 0), l3, l4, l5], [], (am_SG, I, J, Pf), k, n) P) else (am_in x2 8 = true) ∧ (am_in x2 8 = true) ∧ (am_in x2 8 = true) ∧ (am_go sc d 231 (7, [some (.ref 163), some (.ref x1), some (.int (x2 + 1)), l3, l4, l5], [], (am_SG, am_u (am_u I 170 (Int32.toNatClampNeg x2) (I 169 (Int32.toNatClampNeg x2))) 171 (Int32.toNatClampNeg x2) 0, J, Pf), k, n) P))) : am_go sc d 231 (7, [some (.ref 163), some (.ref x1), some (.int x2), l3, l4, l5], [], (am_SG, I, J, Pf), k, n) P := by
  refine am_s_iload_n rfl dc231_0.2.1.2 ?_
  refine am_s_bipush am_cb8 dc231_0.2.2.1 ?_
  refine am_s_ic_ge dc231_0.2.2.2 rfl (fun c1 => ?_) (fun c1 => ?_)
  · refine am_s_iconst am_cc0 dc231_2.2.2.2 ?_
    refine am_s_istore_n (ls' := [some (.ref 163), some (.ref x1), some (.int 0), l3, l4, l5]) rfl rfl dc231_3.1.1.1 ?_
    exact (vi_t q c1)
  · refine am_s_aload_n rfl dc231_1.1.1.1 ?_
    refine am_s_getR (r := 170) dc231_1.1.1.2 rfl rfl rfl (hp _ _ _ rfl) ?_
    refine am_s_iload_n rfl dc231_1.1.2.1 ?_
    refine am_s_aload_n rfl dc231_1.1.2.2 ?_
    refine am_s_getR (r := 169) dc231_1.2.1.1 rfl rfl rfl (hp _ _ _ rfl) ?_
    refine am_s_iload_n rfl dc231_1.2.1.2 ?_
    refine am_x_iaload (x := I 169 (Int32.toNatClampNeg x2)) dc231_1.2.2.1 rfl ((vi_f q c1).1) rfl rfl ?_
    refine am_s_iastore dc231_1.2.2.2 rfl ((vi_f q c1).2.1) rfl ?_
    refine am_s_aload_n rfl dc231_2.1.1.1 ?_
    refine am_s_getR (r := 171) dc231_2.1.1.2 rfl rfl rfl (hp _ _ _ rfl) ?_
    refine am_s_iload_n rfl dc231_2.1.2.1 ?_
    refine am_s_iconst am_cc0 dc231_2.1.2.2 ?_
    refine am_s_iastore dc231_2.2.1.1 rfl ((vi_f q c1).2.2.1) rfl ?_
    refine am_s_iinc (ls' := [some (.ref 163), some (.ref x1), some (.int (x2 + 1)), l3, l4, l5]) am_cc1 rfl rfl dc231_2.2.1.2 ?_
    refine am_s_goto rfl dc231_2.2.2.1 ?_
    exact (vi_f q c1).2.2.2
theorem v231_40G {sc : Option (Nat × (Nat → Int32))} {d k n : Nat} {P : am_O → Prop} {I : am_I} {J : am_J} {Pf : am_R} (hp : am_PF Pf) {x1 : Nat} {Lx1 : Nat} (hx1 : am_SG[x1]? = some (.inr (0, Lx1))) {x2 : Int32} {l3 : Option Value} {l4 : Option Value} {l5 : Option Value} (q : (am_in 4 Lx1 = true) ∧ (if (I x1 (Int32.toNatClampNeg 4)) ≤ x2 then (am_go sc d 231 (85, [some (.ref 163), some (.ref x1), some (.int 0), l3, l4, l5], [], (am_SG, I, J, Pf), k, n) P) else (am_in (1008 + (4 * x2)) Lx1 = true) ∧ (am_in (I x1 (Int32.toNatClampNeg (1008 + (4 * x2)))) 8 = true) ∧ (am_in ((1008 + (4 * x2)) + 1) Lx1 = true) ∧ (am_in (I x1 (Int32.toNatClampNeg (1008 + (4 * x2)))) 8 = true) ∧ (am_go sc d 231 (40, [some (.ref 163), some (.ref x1), some (.int (x2 + 1)), l3, l4, l5], [], (am_SG, am_u I 170 (Int32.toNatClampNeg (I x1 (Int32.toNatClampNeg (1008 + (4 * x2))))) ((I 170 (Int32.toNatClampNeg (I x1 (Int32.toNatClampNeg (1008 + (4 * x2)))))) ||| ((1 : Int32) <<< ((I x1 (Int32.toNatClampNeg ((1008 + (4 * x2)) + 1))) &&& 31))), J, Pf), k, n) P))) : am_go sc d 231 (40, [some (.ref 163), some (.ref x1), some (.int x2), l3, l4, l5], [], (am_SG, I, J, Pf), k, n) P := by
  refine am_s_iload_n rfl dc231_3.1.1.2 ?_
  refine am_s_aload_n rfl dc231_3.1.2.1 ?_
  refine am_s_iconst am_cc4 dc231_3.1.2.2 ?_
  refine am_x_iaload (x := I x1 (Int32.toNatClampNeg 4)) dc231_3.2.1.1 hx1 (q.1) rfl rfl ?_
  refine am_s_ic_ge dc231_3.2.1.2 rfl (fun c1 => ?_) (fun c1 => ?_)
  · refine am_s_iconst am_cc0 dc231_7.1.1.1 ?_
    refine am_s_istore_n (ls' := [some (.ref 163), some (.ref x1), some (.int 0), l3, l4, l5]) rfl rfl dc231_7.1.1.2 ?_
    exact (vi_t q.2 c1)
  · refine am_s_aload_n rfl dc231_3.2.2.1 ?_
    refine am_s_getR (r := 170) dc231_3.2.2.2 rfl rfl rfl (hp _ _ _ rfl) ?_
    refine am_s_aload_n rfl dc231_4.1.1.1 ?_
    refine am_s_sipush am_cs1008 dc231_4.1.1.2 ?_
    refine am_s_iconst am_cc4 dc231_4.1.2.1 ?_
    refine am_s_iload_n rfl dc231_4.1.2.2 ?_
    refine am_s_imul dc231_4.2.1.1 ?_
    refine am_s_iadd dc231_4.2.1.2 ?_
    refine am_x_iaload (x := I x1 (Int32.toNatClampNeg (1008 + (4 * x2)))) dc231_4.2.2.1 hx1 ((vi_f q.2 c1).1) rfl rfl ?_
    refine am_s_dup2 rfl rfl dc231_4.2.2.2 ?_
    refine am_x_iaload (x := I 170 (Int32.toNatClampNeg (I x1 (Int32.toNatClampNeg (1008 + (4 * x2)))))) dc231_5.1.1.1 rfl ((vi_f q.2 c1).2.1) rfl rfl ?_
    refine am_s_iconst am_cc1 dc231_5.1.1.2 ?_
    refine am_s_aload_n rfl dc231_5.1.2.1 ?_
    refine am_s_sipush am_cs1008 dc231_5.1.2.2 ?_
    refine am_s_iconst am_cc4 dc231_5.2.1.1 ?_
    refine am_s_iload_n rfl dc231_5.2.1.2 ?_
    refine am_s_imul dc231_5.2.2.1 ?_
    refine am_s_iadd dc231_5.2.2.2 ?_
    refine am_s_iconst am_cc1 dc231_6.1.1.1 ?_
    refine am_s_iadd dc231_6.1.1.2 ?_
    refine am_x_iaload (x := I x1 (Int32.toNatClampNeg ((1008 + (4 * x2)) + 1))) dc231_6.1.2.1 hx1 ((vi_f q.2 c1).2.2.1) rfl rfl ?_
    refine am_s_ishl dc231_6.1.2.2 ?_
    refine am_s_ior dc231_6.2.1.1 ?_
    refine am_s_iastore dc231_6.2.1.2 rfl ((vi_f q.2 c1).2.2.2.1) rfl ?_
    refine am_s_iinc (ls' := [some (.ref 163), some (.ref x1), some (.int (x2 + 1)), l3, l4, l5]) am_cc1 rfl rfl dc231_6.2.2.1 ?_
    refine am_s_goto rfl dc231_6.2.2.2 ?_
    exact (vi_f q.2 c1).2.2.2.2
theorem v231_85G {sc : Option (Nat × (Nat → Int32))} {d k n : Nat} {P : am_O → Prop} {I : am_I} {J : am_J} {Pf : am_R} (hp : am_PF Pf) {x1 : Nat} {Lx1 : Nat} (hx1 : am_SG[x1]? = some (.inr (0, Lx1))) {x2 : Int32} {l3 : Option Value} {l4 : Option Value} {l5 : Option Value} (q : (if 8 ≤ x2 then (am_go sc d 231 (164, [some (.ref 163), some (.ref x1), some (.int 0), l3, l4, l5], [], (am_SG, I, J, Pf), k, n) P) else (am_go sc d 231 (93, [some (.ref 163), some (.ref x1), some (.int x2), some (.int 0), l4, l5], [], (am_SG, I, J, Pf), k, n) P))) : am_go sc d 231 (85, [some (.ref 163), some (.ref x1), some (.int x2), l3, l4, l5], [], (am_SG, I, J, Pf), k, n) P := by
  refine am_s_iload_n rfl dc231_7.1.2.1 ?_
  refine am_s_bipush am_cb8 dc231_7.1.2.2 ?_
  refine am_s_ic_ge dc231_7.2.1.1 rfl (fun c1 => ?_) (fun c1 => ?_)
  · refine am_s_iconst am_cc0 dc231_12.2.1.1 ?_
    refine am_s_istore_n (ls' := [some (.ref 163), some (.ref x1), some (.int 0), l3, l4, l5]) rfl rfl dc231_12.2.1.2 ?_
    exact (vi_t q c1)
  · refine am_s_iconst am_cc0 dc231_7.2.1.2 ?_
    refine am_s_istore_n (ls' := [some (.ref 163), some (.ref x1), some (.int x2), some (.int 0), l4, l5]) rfl rfl dc231_7.2.2.1 ?_
    exact (vi_f q c1)
theorem v231_93G {sc : Option (Nat × (Nat → Int32))} {d k n : Nat} {P : am_O → Prop} {I : am_I} {J : am_J} {Pf : am_R} (hp : am_PF Pf) {x1 : Nat} {Lx1 : Nat} (hx1 : am_SG[x1]? = some (.inr (0, Lx1))) {x2 : Int32} {x3 : Int32} {l4 : Option Value} {l5 : Option Value} (q : (if 8 ≤ x3 then (am_go sc d 231 (85, [some (.ref 163), some (.ref x1), some (.int (x2 + 1)), some (.int x3), l4, l5], [], (am_SG, I, J, Pf), k, n) P) else (am_go sc d 231 (102, [some (.ref 163), some (.ref x1), some (.int x2), some (.int x3), some (.int 0), l5], [], (am_SG, I, J, Pf), k, n) P))) : am_go sc d 231 (93, [some (.ref 163), some (.ref x1), some (.int x2), some (.int x3), l4, l5], [], (am_SG, I, J, Pf), k, n) P := by
  refine am_s_iload_n rfl dc231_7.2.2.2 ?_
  refine am_s_bipush am_cb8 dc231_8.1.1.1 ?_
  refine am_s_ic_ge dc231_8.1.1.2 rfl (fun c1 => ?_) (fun c1 => ?_)
  · refine am_s_iinc (ls' := [some (.ref 163), some (.ref x1), some (.int (x2 + 1)), some (.int x3), l4, l5]) am_cc1 rfl rfl dc231_12.1.2.1 ?_
    refine am_s_goto rfl dc231_12.1.2.2 ?_
    exact (vi_t q c1)
  · refine am_s_iconst am_cc0 dc231_8.1.2.1 ?_
    refine am_s_istore (ls' := [some (.ref 163), some (.ref x1), some (.int x2), some (.int x3), some (.int 0), l5]) rfl rfl dc231_8.1.2.2 ?_
    exact (vi_f q c1)
theorem v231_102G {sc : Option (Nat × (Nat → Int32))} {d k n : Nat} {P : am_O → Prop} {I : am_I} {J : am_J} {Pf : am_R} (hp : am_PF Pf) {x1 : Nat} {Lx1 : Nat} (hx1 : am_SG[x1]? = some (.inr (0, Lx1))) {x2 : Int32} {x3 : Int32} {x4 : Int32} {l5 : Option Value} (q : (if 8 ≤ x4 then (am_go sc d 231 (93, [some (.ref 163), some (.ref x1), some (.int x2), some (.int (x3 + 1)), some (.int x4), l5], [], (am_SG, I, J, Pf), k, n) P) else (am_in x3 8 = true) ∧ (am_in x3 8 = true) ∧ (if (((I 170 (Int32.toNatClampNeg x3)) >>> (x4 &&& 31)) &&& 1) = 1 then (am_in x4 8 = true) ∧ (am_in x3 8 = true) ∧ (am_go sc d 231 (102, [some (.ref 163), some (.ref x1), some (.int x2), some (.int x3), some (.int (x4 + 1)), l5], [], (am_SG, am_u I 170 (Int32.toNatClampNeg x3) ((I 170 (Int32.toNatClampNeg x3)) ||| (I 170 (Int32.toNatClampNeg x4))), J, Pf), k, n) P) else (am_in x3 8 = true) ∧ (am_go sc d 231 (102, [some (.ref 163), some (.ref x1), some (.int x2), some (.int x3), some (.int (x4 + 1)), l5], [], (am_SG, am_u I 170 (Int32.toNatClampNeg x3) ((I 170 (Int32.toNatClampNeg x3)) ||| 0), J, Pf), k, n) P)))) : am_go sc d 231 (102, [some (.ref 163), some (.ref x1), some (.int x2), some (.int x3), some (.int x4), l5], [], (am_SG, I, J, Pf), k, n) P := by
  refine am_s_iload rfl dc231_8.2.1.1 ?_
  refine am_s_bipush am_cb8 dc231_8.2.1.2 ?_
  refine am_s_ic_ge dc231_8.2.2.1 rfl (fun c1 => ?_) (fun c1 => ?_)
  · refine am_s_iinc (ls' := [some (.ref 163), some (.ref x1), some (.int x2), some (.int (x3 + 1)), some (.int x4), l5]) am_cc1 rfl rfl dc231_12.1.1.1 ?_
    refine am_s_goto rfl dc231_12.1.1.2 ?_
    exact (vi_t q c1)
  · refine am_s_aload_n rfl dc231_8.2.2.2 ?_
    refine am_s_getR (r := 170) dc231_9.1.1.1 rfl rfl rfl (hp _ _ _ rfl) ?_
    refine am_s_iload_n rfl dc231_9.1.1.2 ?_
    refine am_s_dup2 rfl rfl dc231_9.1.2.1 ?_
    refine am_x_iaload (x := I 170 (Int32.toNatClampNeg x3)) dc231_9.1.2.2 rfl ((vi_f q c1).1) rfl rfl ?_
    refine am_s_aload_n rfl dc231_9.2.1.1 ?_
    refine am_s_getR (r := 170) dc231_9.2.1.2 rfl rfl rfl (hp _ _ _ rfl) ?_
    refine am_s_iload_n rfl dc231_9.2.2.1 ?_
    refine am_x_iaload (x := I 170 (Int32.toNatClampNeg x3)) dc231_9.2.2.2 rfl ((vi_f q c1).2.1) rfl rfl ?_
    refine am_s_iload rfl dc231_10.1.1.1 ?_
    refine am_s_ishr dc231_10.1.1.2 ?_
    refine am_s_iconst am_cc1 dc231_10.1.2.1 ?_
    refine am_s_iand dc231_10.1.2.2 ?_
    refine am_s_iconst am_cc1 dc231_10.2.1.1 ?_
    refine am_s_ic_ne dc231_10.2.1.2 rfl (fun c2 => ?_) (fun c2 => ?_)
    · refine am_s_iconst am_cc0 dc231_11.1.2.2 ?_
      refine am_s_ior dc231_11.2.1.1 ?_
      refine am_s_iastore dc231_11.2.1.2 rfl ((vi_f (vi_f q c1).2.2 c2).1) rfl ?_
      refine am_s_iinc (ls' := [some (.ref 163), some (.ref x1), some (.int x2), some (.int x3), some (.int (x4 + 1)), l5]) am_cc1 rfl rfl dc231_11.2.2.1 ?_
      refine am_s_goto rfl dc231_11.2.2.2 ?_
      exact (vi_f (vi_f q c1).2.2 c2).2
    · refine am_s_aload_n rfl dc231_10.2.2.1 ?_
      refine am_s_getR (r := 170) dc231_10.2.2.2 rfl rfl rfl (hp _ _ _ rfl) ?_
      refine am_s_iload rfl dc231_11.1.1.1 ?_
      refine am_x_iaload (x := I 170 (Int32.toNatClampNeg x4)) dc231_11.1.1.2 rfl ((vi_t (vi_f q c1).2.2 (Decidable.not_not.mp c2)).1) rfl rfl ?_
      refine am_s_goto rfl dc231_11.1.2.1 ?_
      refine am_s_ior dc231_11.2.1.1 ?_
      refine am_s_iastore dc231_11.2.1.2 rfl ((vi_t (vi_f q c1).2.2 (Decidable.not_not.mp c2)).2.1) rfl ?_
      refine am_s_iinc (ls' := [some (.ref 163), some (.ref x1), some (.int x2), some (.int x3), some (.int (x4 + 1)), l5]) am_cc1 rfl rfl dc231_11.2.2.1 ?_
      refine am_s_goto rfl dc231_11.2.2.2 ?_
      exact (vi_t (vi_f q c1).2.2 (Decidable.not_not.mp c2)).2.2
theorem v231_164G {sc : Option (Nat × (Nat → Int32))} {d k n : Nat} {P : am_O → Prop} {I : am_I} {J : am_J} {Pf : am_R} (hp : am_PF Pf) {x1 : Nat} {Lx1 : Nat} (hx1 : am_SG[x1]? = some (.inr (0, Lx1))) {x2 : Int32} {l3 : Option Value} {l4 : Option Value} {l5 : Option Value} (q : (if 64 ≤ x2 then (P (.inl none, (am_SG, I, J, Pf), k, n)) else (am_go sc d 231 (172, [some (.ref 163), some (.ref x1), some (.int x2), some (.int 0), l4, l5], [], (am_SG, I, J, Pf), k, n) P))) : am_go sc d 231 (164, [some (.ref 163), some (.ref x1), some (.int x2), l3, l4, l5], [], (am_SG, I, J, Pf), k, n) P := by
  refine am_s_iload_n rfl dc231_12.2.2.1 ?_
  refine am_s_bipush am_cb64 dc231_12.2.2.2 ?_
  refine am_s_ic_ge dc231_13.1.1.1 rfl (fun c1 => ?_) (fun c1 => ?_)
  · exact am_s_return dc231_24.2.2 rfl ((vi_t q c1))
  · refine am_s_iconst am_cc0 dc231_13.1.1.2 ?_
    refine am_s_istore_n (ls' := [some (.ref 163), some (.ref x1), some (.int x2), some (.int 0), l4, l5]) rfl rfl dc231_13.1.2.1 ?_
    exact (vi_f q c1)
theorem v231_172G {sc : Option (Nat × (Nat → Int32))} {d k n : Nat} {P : am_O → Prop} {I : am_I} {J : am_J} {Pf : am_R} (hp : am_PF Pf) {x1 : Nat} {Lx1 : Nat} (hx1 : am_SG[x1]? = some (.inr (0, Lx1))) {x2 : Int32} {x3 : Int32} {l4 : Option Value} {l5 : Option Value} (q : (if 8 ≤ x3 then (am_go sc d 231 (246, [some (.ref 163), some (.ref x1), some (.int x2), some (.int 0), l4, l5], [], (am_SG, I, J, Pf), k, n) P) else (am_go sc d 231 (181, [some (.ref 163), some (.ref x1), some (.int x2), some (.int x3), some (.int 0), l5], [], (am_SG, I, J, Pf), k, n) P))) : am_go sc d 231 (172, [some (.ref 163), some (.ref x1), some (.int x2), some (.int x3), l4, l5], [], (am_SG, I, J, Pf), k, n) P := by
  refine am_s_iload_n rfl dc231_13.1.2.2 ?_
  refine am_s_bipush am_cb8 dc231_13.2.1.1 ?_
  refine am_s_ic_ge dc231_13.2.1.2 rfl (fun c1 => ?_) (fun c1 => ?_)
  · refine am_s_iconst am_cc0 dc231_18.1.2.1 ?_
    refine am_s_istore_n (ls' := [some (.ref 163), some (.ref x1), some (.int x2), some (.int 0), l4, l5]) rfl rfl dc231_18.1.2.2 ?_
    exact (vi_t q c1)
  · refine am_s_iconst am_cc0 dc231_13.2.2.1 ?_
    refine am_s_istore (ls' := [some (.ref 163), some (.ref x1), some (.int x2), some (.int x3), some (.int 0), l5]) rfl rfl dc231_13.2.2.2 ?_
    exact (vi_f q c1)
theorem v231_181G {sc : Option (Nat × (Nat → Int32))} {d k n : Nat} {P : am_O → Prop} {I : am_I} {J : am_J} {Pf : am_R} (hp : am_PF Pf) {x1 : Nat} {Lx1 : Nat} (hx1 : am_SG[x1]? = some (.inr (0, Lx1))) {x2 : Int32} {x3 : Int32} {x4 : Int32} {l5 : Option Value} (q : (if 8 ≤ x4 then (am_go sc d 231 (172, [some (.ref 163), some (.ref x1), some (.int x2), some (.int (x3 + 1)), some (.int x4), l5], [], (am_SG, I, J, Pf), k, n) P) else (am_in x3 8 = true) ∧ (if (((I 169 (Int32.toNatClampNeg x3)) >>> (x4 &&& 31)) &&& 1) = 1 then (am_in x4 8 = true) ∧ (am_in x3 8 = true) ∧ (if (I 171 (Int32.toNatClampNeg x4)) ≤ (I 171 (Int32.toNatClampNeg x3)) then (am_go sc d 231 (181, [some (.ref 163), some (.ref x1), some (.int x2), some (.int x3), some (.int (x4 + 1)), l5], [], (am_SG, I, J, Pf), k, n) P) else (am_in x4 8 = true) ∧ (am_in x3 8 = true) ∧ (am_go sc d 231 (181, [some (.ref 163), some (.ref x1), some (.int x2), some (.int x3), some (.int (x4 + 1)), l5], [], (am_SG, am_u I 171 (Int32.toNatClampNeg x3) (I 171 (Int32.toNatClampNeg x4)), J, Pf), k, n) P)) else (am_go sc d 231 (181, [some (.ref 163), some (.ref x1), some (.int x2), some (.int x3), some (.int (x4 + 1)), l5], [], (am_SG, I, J, Pf), k, n) P)))) : am_go sc d 231 (181, [some (.ref 163), some (.ref x1), some (.int x2), some (.int x3), some (.int x4), l5], [], (am_SG, I, J, Pf), k, n) P := by
  refine am_s_iload rfl dc231_14.1.1.1 ?_
  refine am_s_bipush am_cb8 dc231_14.1.1.2 ?_
  refine am_s_ic_ge dc231_14.1.2.1 rfl (fun c1 => ?_) (fun c1 => ?_)
  · refine am_s_iinc (ls' := [some (.ref 163), some (.ref x1), some (.int x2), some (.int (x3 + 1)), some (.int x4), l5]) am_cc1 rfl rfl dc231_18.1.1.1 ?_
    refine am_s_goto rfl dc231_18.1.1.2 ?_
    exact (vi_t q c1)
  · refine am_s_aload_n rfl dc231_14.1.2.2 ?_
    refine am_s_getR (r := 169) dc231_14.2.1.1 rfl rfl rfl (hp _ _ _ rfl) ?_
    refine am_s_iload_n rfl dc231_14.2.1.2 ?_
    refine am_x_iaload (x := I 169 (Int32.toNatClampNeg x3)) dc231_14.2.2.1 rfl ((vi_f q c1).1) rfl rfl ?_
    refine am_s_iload rfl dc231_14.2.2.2 ?_
    refine am_s_ishr dc231_15.1.1.1 ?_
    refine am_s_iconst am_cc1 dc231_15.1.1.2 ?_
    refine am_s_iand dc231_15.1.2.1 ?_
    refine am_s_iconst am_cc1 dc231_15.1.2.2 ?_
    refine am_s_ic_ne dc231_15.2.1.1 rfl (fun c2 => ?_) (fun c2 => ?_)
    · refine am_s_iinc (ls' := [some (.ref 163), some (.ref x1), some (.int x2), some (.int x3), some (.int (x4 + 1)), l5]) am_cc1 rfl rfl dc231_17.2.2.1 ?_
      refine am_s_goto rfl dc231_17.2.2.2 ?_
      exact (vi_f (vi_f q c1).2 c2)
    · refine am_s_aload_n rfl dc231_15.2.1.2 ?_
      refine am_s_getR (r := 171) dc231_15.2.2.1 rfl rfl rfl (hp _ _ _ rfl) ?_
      refine am_s_iload rfl dc231_15.2.2.2 ?_
      refine am_x_iaload (x := I 171 (Int32.toNatClampNeg x4)) dc231_16.1.1.1 rfl ((vi_t (vi_f q c1).2 (Decidable.not_not.mp c2)).1) rfl rfl ?_
      refine am_s_aload_n rfl dc231_16.1.1.2 ?_
      refine am_s_getR (r := 171) dc231_16.1.2.1 rfl rfl rfl (hp _ _ _ rfl) ?_
      refine am_s_iload_n rfl dc231_16.1.2.2 ?_
      refine am_x_iaload (x := I 171 (Int32.toNatClampNeg x3)) dc231_16.2.1.1 rfl ((vi_t (vi_f q c1).2 (Decidable.not_not.mp c2)).2.1) rfl rfl ?_
      refine am_s_ic_le dc231_16.2.1.2 rfl (fun c3 => ?_) (fun c3 => ?_)
      · refine am_s_iinc (ls' := [some (.ref 163), some (.ref x1), some (.int x2), some (.int x3), some (.int (x4 + 1)), l5]) am_cc1 rfl rfl dc231_17.2.2.1 ?_
        refine am_s_goto rfl dc231_17.2.2.2 ?_
        exact (vi_t (vi_t (vi_f q c1).2 (Decidable.not_not.mp c2)).2.2 c3)
      · refine am_s_aload_n rfl dc231_16.2.2.1 ?_
        refine am_s_getR (r := 171) dc231_16.2.2.2 rfl rfl rfl (hp _ _ _ rfl) ?_
        refine am_s_iload_n rfl dc231_17.1.1.1 ?_
        refine am_s_aload_n rfl dc231_17.1.1.2 ?_
        refine am_s_getR (r := 171) dc231_17.1.2.1 rfl rfl rfl (hp _ _ _ rfl) ?_
        refine am_s_iload rfl dc231_17.1.2.2 ?_
        refine am_x_iaload (x := I 171 (Int32.toNatClampNeg x4)) dc231_17.2.1.1 rfl ((vi_f (vi_t (vi_f q c1).2 (Decidable.not_not.mp c2)).2.2 c3).1) rfl rfl ?_
        refine am_s_iastore dc231_17.2.1.2 rfl ((vi_f (vi_t (vi_f q c1).2 (Decidable.not_not.mp c2)).2.2 c3).2.1) rfl ?_
        refine am_s_iinc (ls' := [some (.ref 163), some (.ref x1), some (.int x2), some (.int x3), some (.int (x4 + 1)), l5]) am_cc1 rfl rfl dc231_17.2.2.1 ?_
        refine am_s_goto rfl dc231_17.2.2.2 ?_
        exact (vi_f (vi_t (vi_f q c1).2 (Decidable.not_not.mp c2)).2.2 c3).2.2
theorem v231_246G {sc : Option (Nat × (Nat → Int32))} {d k n : Nat} {P : am_O → Prop} {I : am_I} {J : am_J} {Pf : am_R} (hp : am_PF Pf) {x1 : Nat} {Lx1 : Nat} (hx1 : am_SG[x1]? = some (.inr (0, Lx1))) {x2 : Int32} {x3 : Int32} {l4 : Option Value} {l5 : Option Value} (q : (am_in 4 Lx1 = true) ∧ (if (I x1 (Int32.toNatClampNeg 4)) ≤ x3 then (am_go sc d 231 (164, [some (.ref 163), some (.ref x1), some (.int (x2 + 1)), some (.int x3), l4, l5], [], (am_SG, I, J, Pf), k, n) P) else (am_in (1008 + (4 * x3)) Lx1 = true) ∧ (am_in ((1008 + (4 * x3)) + 1) Lx1 = true) ∧ (am_in (I x1 (Int32.toNatClampNeg ((1008 + (4 * x3)) + 1))) 8 = true) ∧ (am_in (I x1 (Int32.toNatClampNeg (1008 + (4 * x3)))) 8 = true) ∧ (if (I 171 (Int32.toNatClampNeg (I x1 (Int32.toNatClampNeg ((1008 + (4 * x3)) + 1))))) < (I 171 (Int32.toNatClampNeg (I x1 (Int32.toNatClampNeg (1008 + (4 * x3)))))) then (am_go sc d 231 (246, [some (.ref 163), some (.ref x1), some (.int x2), some (.int (x3 + 1)), some (.int (I x1 (Int32.toNatClampNeg (1008 + (4 * x3))))), some (.int (I x1 (Int32.toNatClampNeg ((1008 + (4 * x3)) + 1))))], [], (am_SG, I, J, Pf), k, n) P) else (am_in (I x1 (Int32.toNatClampNeg ((1008 + (4 * x3)) + 1))) 8 = true) ∧ (am_in (I x1 (Int32.toNatClampNeg (1008 + (4 * x3)))) 8 = true) ∧ (am_go sc d 231 (246, [some (.ref 163), some (.ref x1), some (.int x2), some (.int (x3 + 1)), some (.int (I x1 (Int32.toNatClampNeg (1008 + (4 * x3))))), some (.int (I x1 (Int32.toNatClampNeg ((1008 + (4 * x3)) + 1))))], [], (am_SG, am_u I 171 (Int32.toNatClampNeg (I x1 (Int32.toNatClampNeg (1008 + (4 * x3))))) ((I 171 (Int32.toNatClampNeg (I x1 (Int32.toNatClampNeg ((1008 + (4 * x3)) + 1))))) + 1), J, Pf), k, n) P)))) : am_go sc d 231 (246, [some (.ref 163), some (.ref x1), some (.int x2), some (.int x3), l4, l5], [], (am_SG, I, J, Pf), k, n) P := by
  refine am_s_iload_n rfl dc231_18.2.1.1 ?_
  refine am_s_aload_n rfl dc231_18.2.1.2 ?_
  refine am_s_iconst am_cc4 dc231_18.2.2.1 ?_
  refine am_x_iaload (x := I x1 (Int32.toNatClampNeg 4)) dc231_18.2.2.2 hx1 (q.1) rfl rfl ?_
  refine am_s_ic_ge dc231_19.1.1.1 rfl (fun c1 => ?_) (fun c1 => ?_)
  · refine am_s_iinc (ls' := [some (.ref 163), some (.ref x1), some (.int (x2 + 1)), some (.int x3), l4, l5]) am_cc1 rfl rfl dc231_24.1 ?_
    refine am_s_goto rfl dc231_24.2.1 ?_
    exact (vi_t q.2 c1)
  · refine am_s_aload_n rfl dc231_19.1.1.2 ?_
    refine am_s_sipush am_cs1008 dc231_19.1.2.1 ?_
    refine am_s_iconst am_cc4 dc231_19.1.2.2 ?_
    refine am_s_iload_n rfl dc231_19.2.1.1 ?_
    refine am_s_imul dc231_19.2.1.2 ?_
    refine am_s_iadd dc231_19.2.2.1 ?_
    refine am_x_iaload (x := I x1 (Int32.toNatClampNeg (1008 + (4 * x3)))) dc231_19.2.2.2 hx1 ((vi_f q.2 c1).1) rfl rfl ?_
    refine am_s_istore (ls' := [some (.ref 163), some (.ref x1), some (.int x2), some (.int x3), some (.int (I x1 (Int32.toNatClampNeg (1008 + (4 * x3))))), l5]) rfl rfl dc231_20.1.1.1 ?_
    refine am_s_aload_n rfl dc231_20.1.1.2 ?_
    refine am_s_sipush am_cs1008 dc231_20.1.2.1 ?_
    refine am_s_iconst am_cc4 dc231_20.1.2.2 ?_
    refine am_s_iload_n rfl dc231_20.2.1.1 ?_
    refine am_s_imul dc231_20.2.1.2 ?_
    refine am_s_iadd dc231_20.2.2.1 ?_
    refine am_s_iconst am_cc1 dc231_20.2.2.2 ?_
    refine am_s_iadd dc231_21.1.1.1 ?_
    refine am_x_iaload (x := I x1 (Int32.toNatClampNeg ((1008 + (4 * x3)) + 1))) dc231_21.1.1.2 hx1 ((vi_f q.2 c1).2.1) rfl rfl ?_
    refine am_s_istore (ls' := [some (.ref 163), some (.ref x1), some (.int x2), some (.int x3), some (.int (I x1 (Int32.toNatClampNeg (1008 + (4 * x3))))), some (.int (I x1 (Int32.toNatClampNeg ((1008 + (4 * x3)) + 1))))]) rfl rfl dc231_21.1.2.1 ?_
    refine am_s_aload_n rfl dc231_21.1.2.2 ?_
    refine am_s_getR (r := 171) dc231_21.2.1.1 rfl rfl rfl (hp _ _ _ rfl) ?_
    refine am_s_iload rfl dc231_21.2.1.2 ?_
    refine am_x_iaload (x := I 171 (Int32.toNatClampNeg (I x1 (Int32.toNatClampNeg ((1008 + (4 * x3)) + 1))))) dc231_21.2.2.1 rfl ((vi_f q.2 c1).2.2.1) rfl rfl ?_
    refine am_s_aload_n rfl dc231_21.2.2.2 ?_
    refine am_s_getR (r := 171) dc231_22.1.1.1 rfl rfl rfl (hp _ _ _ rfl) ?_
    refine am_s_iload rfl dc231_22.1.1.2 ?_
    refine am_x_iaload (x := I 171 (Int32.toNatClampNeg (I x1 (Int32.toNatClampNeg (1008 + (4 * x3)))))) dc231_22.1.2.1 rfl ((vi_f q.2 c1).2.2.2.1) rfl rfl ?_
    refine am_s_ic_lt dc231_22.1.2.2 rfl (fun c2 => ?_) (fun c2 => ?_)
    · refine am_s_iinc (ls' := [some (.ref 163), some (.ref x1), some (.int x2), some (.int (x3 + 1)), some (.int (I x1 (Int32.toNatClampNeg (1008 + (4 * x3))))), some (.int (I x1 (Int32.toNatClampNeg ((1008 + (4 * x3)) + 1))))]) am_cc1 rfl rfl dc231_23.2.2.1 ?_
      refine am_s_goto rfl dc231_23.2.2.2 ?_
      exact (vi_t (vi_f q.2 c1).2.2.2.2 c2)
    · refine am_s_aload_n rfl dc231_22.2.1.1 ?_
      refine am_s_getR (r := 171) dc231_22.2.1.2 rfl rfl rfl (hp _ _ _ rfl) ?_
      refine am_s_iload rfl dc231_22.2.2.1 ?_
      refine am_s_aload_n rfl dc231_22.2.2.2 ?_
      refine am_s_getR (r := 171) dc231_23.1.1.1 rfl rfl rfl (hp _ _ _ rfl) ?_
      refine am_s_iload rfl dc231_23.1.1.2 ?_
      refine am_x_iaload (x := I 171 (Int32.toNatClampNeg (I x1 (Int32.toNatClampNeg ((1008 + (4 * x3)) + 1))))) dc231_23.1.2.1 rfl ((vi_f (vi_f q.2 c1).2.2.2.2 c2).1) rfl rfl ?_
      refine am_s_iconst am_cc1 dc231_23.1.2.2 ?_
      refine am_s_iadd dc231_23.2.1.1 ?_
      refine am_s_iastore dc231_23.2.1.2 rfl ((vi_f (vi_f q.2 c1).2.2.2.2 c2).2.1) rfl ?_
      refine am_s_iinc (ls' := [some (.ref 163), some (.ref x1), some (.int x2), some (.int (x3 + 1)), some (.int (I x1 (Int32.toNatClampNeg (1008 + (4 * x3))))), some (.int (I x1 (Int32.toNatClampNeg ((1008 + (4 * x3)) + 1))))]) am_cc1 rfl rfl dc231_23.2.2.1 ?_
      refine am_s_goto rfl dc231_23.2.2.2 ?_
      exact (vi_f (vi_f q.2 c1).2.2.2.2 c2).2.2
theorem v231_5G {sc : Option (Nat × (Nat → Int32))} {d k n : Nat} {P : am_O → Prop} {I : am_I} {J : am_J} {Pf : am_R} (hp : am_PF Pf) {x1 : Nat} {Lx1 : Nat} (hx1 : am_SG[x1]? = some (.inr (0, Lx1))) {l2 : Option Value} {l3 : Option Value} {l4 : Option Value} {l5 : Option Value} (q : (am_go sc d 231 (7, [some (.ref 163), some (.ref x1), some (.int 0), l3, l4, l5], [], (am_SG, I, J, Pf), k, n) P)) : am_go sc d 231 (5, [some (.ref 163), some (.ref x1), l2, l3, l4, l5], [], (am_SG, I, J, Pf), k, n) P := by
  refine am_s_iconst am_cc0 dc231_0.1.2.2 ?_
  refine am_s_istore_n (ls' := [some (.ref 163), some (.ref x1), some (.int 0), l3, l4, l5]) rfl rfl dc231_0.2.1.1 ?_
  exact q
-- emit (II)V
section
variable {d : Nat} {P : am_O → Prop} {J : am_J} {Pf : am_R} {w : Nat → Int32} {x : Nat}
theorem sr_usesG (hp : am_PF Pf) (hx : am_SG[x]? = some (.inr (0, 1040))) (hx9 : x ≠ 169) (hG : WG w) {I : am_I} (hw : I x = w)
    (kk : ∀ I', btR I' 169 (useW w) → (∀ o k, o ≠ 169 → I' o k = I o k) → P (.inl none, (am_SG, I', J, Pf), 0, 0)) : am_mth (d + 1) 230 [.ref 163, .ref x] (am_SG, I, J, Pf) P := by
  obtain ⟨⟨w0, w0'⟩, ⟨w1, w1'⟩, ⟨w2, w2'⟩, ⟨w3, w3'⟩, ⟨w4, w4'⟩, wk⟩ := id hG.1
  -- quotes
  have LQ : ∀ (m : Nat) (I : am_I) (q : Nat) (l3 l4 : Option Value), wN w 2 - q = m → q ≤ wN w 2 → I x = w → btR I 169 (fun s t => anyB (wN w 1) (fun p => useP w s t p (wN w (32 + 3 * p + 2))) || anyB q (useQ w s t)) → (∀ I', btR I' 169 (useW w) → (∀ o k, o ≠ 169 → I' o k = I o k) → P (.inl none, (am_SG, I', J, Pf), 0, 0)) → am_go none d 230 (105, [some (.ref 163), some (.ref x), some (.int (ni q)), l3, l4], [], (am_SG, I, J, Pf), 0, 0) P := by
    intro m
    induction m with
    | zero =>
      intro I q l3 l4 hm hq hw hB kk
      refine v230_105G hp hx ⟨by decide, ?_⟩
      rw [hw, show w (Int32.toNatClampNeg 2) = ni (wN w 2) from w2, if_pos ((ni_le (by omega) (by omega)).mpr (by omega))]
      have : q = wN w 2 := by omega
      subst this
      exact kk I hB (fun _ _ _ => rfl)
    | succ m ih =>
      intro I q l3 l4 hm hq hw hB kk
      obtain ⟨g1, g2, g3, g4⟩ := hG.qu (q := q) (by omega)
      refine v230_105G hp hx ⟨by decide, ?_⟩
      rw [hw, show w (Int32.toNatClampNeg 2) = ni (wN w 2) from w2, if_neg (fun z => absurd ((ni_le (by omega) (by omega)).mp z) (by omega)), i5, ni_p1, ni_nat (by omega), ni_nat (by omega), g2, g4, ni_nat (by omega), ni_p1]
      refine ⟨ni_in (by omega) (by omega), ni_in (by omega) (by omega), ni_in (by omega) (by omega), ni_in (by omega) (by omega), ?_⟩
      refine ih _ (q + 1) _ _ (by omega) (by omega) ((am_u_o hx9).trans hw) (hB.set g1 (by omega) (fun a t ha ht => ?_)) (fun I' f1 f2 => kk I' f1 (fun o k e => (f2 o k e).trans (am_u_nq (by omega))))
      show (_ || (anyB q (useQ w a t) || useQ w a t q)) = _
      rw [Bool.or_assoc]
      congr 2
      unfold useQ
      congr 1
      · exact decide_eq_decide.mpr eq_comm
      · exact decide_eq_decide.mpr eq_comm
  -- parts
  have LK : ∀ (m : Nat) (I : am_I) (p k : Nat) (l4 : Option Value), wN w (32 + 3 * p + 2) - k = m → k ≤ wN w (32 + 3 * p + 2) → p < wN w 1 → I x = w → btR I 169 (fun s t => anyB p (fun p => useP w s t p (wN w (32 + 3 * p + 2))) || useP w s t p k) → (∀ (I' : am_I) (l3 l4 : Option Value), I' x = w → btR I' 169 (fun s t => anyB (p + 1) (fun p => useP w s t p (wN w (32 + 3 * p + 2)))) → (∀ o k, o ≠ 169 → I' o k = I o k) → am_go none d 230 (23, [some (.ref 163), some (.ref x), some (.int (ni (p + 1))), l3, l4], [], (am_SG, I', J, Pf), 0, 0) P) → am_go none d 230 (32, [some (.ref 163), some (.ref x), some (.int (ni p)), some (.int (ni k)), l4], [], (am_SG, I, J, Pf), 0, 0) P := by
    intro m
    induction m with
    | zero =>
      intro I p k l4 hm hk hp1 hw hB kk
      obtain ⟨g1, g2, g3, g4, g5, g6⟩ := hG.pr hp1
      refine v230_32G hp hx ?_
      rw [i3, ni_p2, hw, ni_nat (by omega), g4]
      refine ⟨ni_in (by omega) (by omega), ?_⟩
      rw [if_pos ((ni_le (by omega) (by omega)).mpr (by omega)), ni_p1]
      have : k = wN w (32 + 3 * p + 2) := by omega
      subst this
      exact kk I _ _ hw hB (fun _ _ _ => rfl)
    | succ m ih =>
      intro I p k l4 hm hk hp1 hw hB kk
      obtain ⟨g1, g2, g3, g4, g5, g6⟩ := hG.pr hp1
      refine v230_32G hp hx ?_
      rw [i3, ni_p2, hw, show (ni (32 + 3 * p + 2)).toNatClampNeg = 32 + 3 * p + 2 from ni_nat (by omega), g4]
      refine ⟨ni_in (by omega) (by omega), ?_⟩
      rw [if_neg (fun z => absurd ((ni_le (by omega) (by omega)).mp z) (by omega)), eP_ni (by omega) (by omega), show (ni (eP p k)).toNatClampNeg = eP p k from ni_nat (by unfold eP; omega)]
      refine ⟨ni_in (by unfold eP; omega) (by unfold eP; omega), ?_⟩
      by_cases c : w (eP p k) = 1
      · obtain ⟨e1, e2⟩ := WG.so (g6 k (by omega)) c
        rw [if_pos c, ni_p1, show (ni (32 + 3 * p)).toNatClampNeg = 32 + 3 * p from ni_nat (by omega), g2, ni_nat (by omega), show (ni (eP p k + 1)).toNatClampNeg = eP p k + 1 from ni_nat (by unfold eP; omega), e2, ni_p1]
        refine ⟨ni_in (by omega) (by omega), ni_in (by omega) (by omega), ni_in (by unfold eP; omega) (by unfold eP; omega), ni_in (by omega) (by omega), ?_⟩
        refine ih _ p (k + 1) _ (by omega) (by omega) hp1 ((am_u_o hx9).trans hw) (hB.set g1 (by omega) (fun a t ha ht => ?_)) (fun I' l3 l4 f0 f1 f2 => kk I' l3 l4 f0 f1 (fun o k e => (f2 o k e).trans (am_u_nq (by omega))))
        rw [Bool.or_assoc]
        congr 1
        unfold useP
        show (_ && (_ || _)) = _
        rw [Bool.and_or_distrib_left]
        congr 1
        dsimp only
        rw [decide_eq_true c, Bool.true_and]
        congr 1
        · exact decide_eq_decide.mpr eq_comm
        · exact decide_eq_decide.mpr eq_comm
      · rw [if_neg c, ni_p1]
        refine ih _ p (k + 1) _ (by omega) (by omega) hp1 hw (hB.of (fun a t ha ht => ?_)) kk
        congr 1
        unfold useP
        show (_ && (_ || _)) = _
        dsimp only
        rw [decide_eq_false c, Bool.false_and, Bool.or_false]
  -- productions
  have LP : ∀ (m : Nat) (I : am_I) (p : Nat) (l3 l4 : Option Value), wN w 1 - p = m → p ≤ wN w 1 → I x = w → btR I 169 (fun s t => anyB p (fun p => useP w s t p (wN w (32 + 3 * p + 2)))) → (∀ I', btR I' 169 (useW w) → (∀ o k, o ≠ 169 → I' o k = I o k) → P (.inl none, (am_SG, I', J, Pf), 0, 0)) → am_go none d 230 (23, [some (.ref 163), some (.ref x), some (.int (ni p)), l3, l4], [], (am_SG, I, J, Pf), 0, 0) P := by
    intro m
    induction m with
    | zero =>
      intro I p l3 l4 hm hq hw hB kk
      refine v230_23G hp hx ⟨by decide, ?_⟩
      rw [hw, show w (Int32.toNatClampNeg 1) = ni (wN w 1) from w1, if_pos ((ni_le (by omega) (by omega)).mpr (by omega)), ni_0]
      have : p = wN w 1 := by omega
      subst this
      refine LQ _ I 0 _ _ rfl (Nat.zero_le _) hw (hB.of (fun a t _ _ => ?_)) kk
      show (_ || false) = _
      rw [Bool.or_false]
    | succ m ih =>
      intro I p l3 l4 hm hq hw hB kk
      refine v230_23G hp hx ⟨by decide, ?_⟩
      rw [hw, show w (Int32.toNatClampNeg 1) = ni (wN w 1) from w1, if_neg (fun z => absurd ((ni_le (by omega) (by omega)).mp z) (by omega)), ni_0]
      refine LK _ I p 0 _ rfl (Nat.zero_le _) (by omega) hw (hB.of (fun a t _ _ => ?_)) (fun I' l3 l4 f0 f1 f2 => ih I' (p + 1) l3 l4 (by omega) (by omega) f0 f1 (fun I'' g1 g2 => kk I'' g1 (fun o k e => (g2 o k e).trans (f2 o k e))))
      unfold useP
      show (_ || (_ && false)) = _
      rw [Bool.and_false, Bool.or_false]
  -- clearing
  have LC : ∀ (m : Nat) (I : am_I) (s : Nat) (l3 l4 : Option Value), 8 - s = m → s ≤ 8 → I x = w → (∀ i, i < s → I 169 i = 0) → (∀ I', btR I' 169 (useW w) → (∀ o k, o ≠ 169 → I' o k = I o k) → P (.inl none, (am_SG, I', J, Pf), 0, 0)) → am_go none d 230 (2, [some (.ref 163), some (.ref x), some (.int (ni s)), l3, l4], [], (am_SG, I, J, Pf), 0, 0) P := by
    intro m
    induction m with
    | zero =>
      intro I s l3 l4 hm hs hw hB kk
      refine v230_2G hp hx ?_
      rw [if_pos ((gle 8 (by omega) (by omega)).mpr (by omega)), ni_0]
      exact LP _ I 0 _ _ rfl (Nat.zero_le _) hw (fun a ha t ht => by rw [hB a (by omega), bI_0]; rfl) kk
    | succ m ih =>
      intro I s l3 l4 hm hs hw hB kk
      refine v230_2G hp hx ?_
      rw [if_neg (fun z => absurd ((gle 8 (by omega) (by omega)).mp z) (by omega)), ni_nat (by omega), ni_p1]
      refine ⟨ni_in (by omega) (by omega), ih _ (s + 1) _ _ (by omega) (by omega) ((am_u_o hx9).trans hw) (fun i hi => ?_) (fun I' f1 f2 => kk I' f1 (fun o k e => (f2 o k e).trans (am_u_nq (by omega))))⟩
      by_cases c : i = s
      · subst c; exact am_u_same
      · rw [am_u_nq (by omega)]; exact hB i (by omega)
  refine am_mth_of rfl rfl (v230_0G hp hx ?_)
  rw [ni_0]
  exact LC 8 I 0 _ _ rfl (by omega) hw (fun i hi => absurd hi (by omega)) kk
end
section
variable {d d0 : Nat} {P : am_O → Prop} {J : am_J} {Pf : am_R} {w : Nat → Int32} {x : Nat}
theorem rr_needG (hp : am_PF Pf) (hx : am_SG[x]? = some (.inr (0, 1040))) (hx7 : x ≠ 170) {l5 : Option Value} : ∀ (m : Nat) (I : am_I) (j : Nat) (l3 l4 : Option Value), 8 - j = m → j ≤ 8 → btR I 170 (ndW w j) → (∀ (I' : am_I) (l3 l4 : Option Value), btR I' 170 (ndW w 8) → (∀ o k, o ≠ 170 → I' o k = I o k) → am_go none d 231 (164, [some (.ref 163), some (.ref x), some (.int 0), l3, l4, l5], [], (am_SG, I', J, Pf), 0, 0) P) → am_go none d 231 (85, [some (.ref 163), some (.ref x), some (.int (ni j)), l3, l4, l5], [], (am_SG, I, J, Pf), 0, 0) P := by
  -- one step
  have ST : ∀ (I : am_I) (R : Nat → Nat → Bool) (s t : Nat) (x2 : Int32), s < 8 → t < 8 → btR I 170 R → (∀ I', btR I' 170 (ndStep s t R) → (∀ o k, o ≠ 170 → I' o k = I o k) → am_go none d 231 (102, [some (.ref 163), some (.ref x), some (.int x2), some (.int (ni s)), some (.int (ni (t + 1))), l5], [], (am_SG, I', J, Pf), 0, 0) P) → am_go none d 231 (102, [some (.ref 163), some (.ref x), some (.int x2), some (.int (ni s)), some (.int (ni t)), l5], [], (am_SG, I, J, Pf), 0, 0) P := by
    intro I R s t x2 hs ht hB kk
    refine v231_102G hp hx ?_
    rw [if_neg (fun z => absurd ((gle 8 (by omega) (by omega)).mp z) (by omega)), show (ni s).toNatClampNeg = s from ni_nat (by omega), show (ni t).toNatClampNeg = t from ni_nat (by omega), ni_p1]
    refine ⟨ni_in (by omega) hs, ni_in (by omega) hs, ?_⟩
    have hbit := bI_sh (v := I 170 s) (j := t) (by omega)
    have hr : ∀ v : Int32, (∀ u, u < 32 → bI v u = ndStep s t R s u) → btR (am_u I 170 s v) 170 (ndStep s t R) := by
      intro v hv a ha u hu
      by_cases c : a = s
      · subst c; rw [am_u_same]; exact hv u hu
      · rw [am_u_nq (by omega), hB a ha u hu]
        unfold ndStep
        rw [if_neg c]
    have e : ∀ u, ndStep s t R s u = (R s u || (R s t && R t u)) := fun u => if_pos rfl
    by_cases c : bI (I 170 s) t = true
    · rw [if_pos (hbit.mpr c)]
      rw [hB s hs t (by omega)] at c
      refine ⟨ni_in (by omega) ht, ni_in (by omega) hs, kk _ (hr _ (fun u hu => ?_)) (fun o k h => am_u_nq (by omega))⟩
      rw [e, bI_or, hB s hs u hu, hB t ht u hu, c, Bool.true_and]
    · rw [if_neg (fun z => c (hbit.mp z))]
      rw [hB s hs t (by omega), Bool.not_eq_true] at c
      refine ⟨ni_in (by omega) hs, kk _ (hr _ (fun u hu => ?_)) (fun o k h => am_u_nq (by omega))⟩
      rw [e, bI_or, hB s hs u hu, c, bI_0]
      rfl
  have ROW : ∀ (m : Nat) (I : am_I) (R : Nat → Nat → Bool) (s t : Nat) (x2 : Int32), 8 - t = m → t ≤ 8 → s < 8 → btR I 170 (ndRow t s R) → (∀ (I' : am_I) (l4 : Option Value), btR I' 170 (ndRow 8 s R) → (∀ o k, o ≠ 170 → I' o k = I o k) → am_go none d 231 (93, [some (.ref 163), some (.ref x), some (.int x2), some (.int (ni (s + 1))), l4, l5], [], (am_SG, I', J, Pf), 0, 0) P) → am_go none d 231 (102, [some (.ref 163), some (.ref x), some (.int x2), some (.int (ni s)), some (.int (ni t)), l5], [], (am_SG, I, J, Pf), 0, 0) P := by
    intro m
    induction m with
    | zero =>
      intro I R s t x2 hm ht hs hB kk
      have : t = 8 := by omega
      subst this
      refine v231_102G hp hx ?_
      rw [if_pos (by decide), ni_p1]
      exact kk I _ hB (fun _ _ _ => rfl)
    | succ m ih =>
      intro I R s t x2 hm ht hs hB kk
      exact ST I _ s t x2 hs (by omega) hB (fun I' f1 f2 => ih I' R s (t + 1) x2 (by omega) (by omega) hs f1 (fun I'' l4 g1 g2 => kk I'' l4 g1 (fun o k e => (g2 o k e).trans (f2 o k e))))
  have ALL : ∀ (m : Nat) (I : am_I) (R : Nat → Nat → Bool) (s j : Nat) (l4 : Option Value), 8 - s = m → s ≤ 8 → btR I 170 (ndTurn s R) → (∀ (I' : am_I) (l3 l4 : Option Value), btR I' 170 (ndTurn 8 R) → (∀ o k, o ≠ 170 → I' o k = I o k) → am_go none d 231 (85, [some (.ref 163), some (.ref x), some (.int (ni (j + 1))), l3, l4, l5], [], (am_SG, I', J, Pf), 0, 0) P) → am_go none d 231 (93, [some (.ref 163), some (.ref x), some (.int (ni j)), some (.int (ni s)), l4, l5], [], (am_SG, I, J, Pf), 0, 0) P := by
    intro m
    induction m with
    | zero =>
      intro I R s j l4 hm hs hB kk
      have : s = 8 := by omega
      subst this
      refine v231_93G hp hx ?_
      rw [if_pos (by decide), ni_p1]
      exact kk I _ _ hB (fun _ _ _ => rfl)
    | succ m ih =>
      intro I R s j l4 hm hs hB kk
      refine v231_93G hp hx ?_
      rw [if_neg (fun z => absurd ((gle 8 (by omega) (by omega)).mp z) (by omega)), ni_0]
      exact ROW 8 I _ s 0 _ rfl (by omega) (by omega) hB (fun I' l4 f1 f2 => ih I' R (s + 1) j l4 (by omega) (by omega) f1 (fun I'' l3 l4 g1 g2 => kk I'' l3 l4 g1 (fun o k e => (g2 o k e).trans (f2 o k e))))
  intro m
  induction m with
  | zero =>
    intro I j l3 l4 hm hj hB kk
    have : j = 8 := by omega
    subst this
    refine v231_85G hp hx ?_
    rw [if_pos (by decide)]
    exact kk I _ _ hB (fun _ _ _ => rfl)
  | succ m ih =>
    intro I j l3 l4 hm hj hB kk
    refine v231_85G hp hx ?_
    rw [if_neg (fun z => absurd ((gle 8 (by omega) (by omega)).mp z) (by omega)), ni_0]
    exact ALL 8 I (ndW w j) 0 j _ rfl (by omega) hB (fun I' l3 l4 f1 f2 => ih I' (j + 1) l3 l4 (by omega) (by omega) f1 (fun I'' l3 l4 g1 g2 => kk I'' l3 l4 g1 (fun o k e => (g2 o k e).trans (f2 o k e))))
end
section
variable {d d0 : Nat} {P : am_O → Prop} {J : am_J} {Pf : am_R} {w : Nat → Int32} {x : Nat}
theorem rr_layersG (hp : am_PF Pf) (hx : am_SG[x]? = some (.inr (0, 1040))) (hx71 : x ≠ 171) (hG : WG w) : ∀ (m : Nat) (I : am_I) (j : Nat) (l3 l4 l5 : Option Value), 64 - j = m → j ≤ 64 → I x = w → btR I 169 (useW w) → nmR I 171 (lyW w j) → (∀ s, lyW w j s ≤ 8 * j) → (∀ I', nmR I' 171 (lyW w 64) → (∀ s, lyW w 64 s ≤ 512) → (∀ o k, o ≠ 171 → I' o k = I o k) → P (.inl none, (am_SG, I', J, Pf), 0, 0)) → am_go none d0 231 (164, [some (.ref 163), some (.ref x), some (.int (ni j)), l3, l4, l5], [], (am_SG, I, J, Pf), 0, 0) P := by
  obtain ⟨⟨w0, w0'⟩, ⟨w1, w1'⟩, ⟨w2, w2'⟩, ⟨w3, w3'⟩, ⟨w4, w4'⟩, wk⟩ := id hG.1
  have nset : ∀ (I : am_I) (v v' : Nat → Nat) (s y : Nat), nmR I 171 v → (∀ a, v' a = if a = s then y else v a) → nmR (am_u I 171 s (ni y)) 171 v' := by
    intro I v v' s y h e a ha
    rw [e a]
    by_cases c : a = s
    · subst c; rw [am_u_same, if_pos rfl]
    · rw [am_u_nq (by omega), if_neg c]; exact h a ha
  -- one step
  have ST : ∀ (I : am_I) (v : Nat → Nat) (s t M : Nat) (x2 : Int32), M ≤ 600 → (∀ a, v a ≤ M) → s < 8 → t < 8 → btR I 169 (useW w) → nmR I 171 v → (∀ I', nmR I' 171 (lyS w s t v) → (∀ a, lyS w s t v a ≤ M) → (∀ o k, o ≠ 171 → I' o k = I o k) → ∀ l5, am_go none d0 231 (181, [some (.ref 163), some (.ref x), some (.int x2), some (.int (ni s)), some (.int (ni (t + 1))), l5], [], (am_SG, I', J, Pf), 0, 0) P) → ∀ l5, am_go none d0 231 (181, [some (.ref 163), some (.ref x), some (.int x2), some (.int (ni s)), some (.int (ni t)), l5], [], (am_SG, I, J, Pf), 0, 0) P := by
    intro I v s t M x2 hM hv hs ht hB hN kk l5
    have vs := hv s
    have vt := hv t
    refine v231_181G hp hx ?_
    rw [if_neg (fun z => absurd ((gle 8 (by omega) (by omega)).mp z) (by omega)), show (ni s).toNatClampNeg = s from ni_nat (by omega), show (ni t).toNatClampNeg = t from ni_nat (by omega), ni_p1]
    refine ⟨ni_in (by omega) hs, ?_⟩
    have hbit := bI_sh (v := I 169 s) (j := t) (by omega)
    rw [hB s hs t (by omega)] at hbit
    by_cases c : useW w s t = true
    · rw [if_pos (hbit.mpr c), hN s hs, hN t ht]
      refine ⟨ni_in (by omega) ht, ni_in (by omega) hs, ?_⟩
      by_cases c2 : v t ≤ v s
      · rw [if_pos ((ni_le (by omega) (by omega)).mpr c2)]
        have e : lyS w s t v = v := by
          funext a
          unfold lyS
          rw [if_neg (by omega)]
        exact kk I (by rw [e]; exact hN) (by rw [e]; exact hv) (fun _ _ _ => rfl) _
      · rw [if_neg (fun z => c2 ((ni_le (by omega) (by omega)).mp z))]
        have e : ∀ a, lyS w s t v a = if a = s then v t else v a := by
          intro a
          unfold lyS
          by_cases d : a = s
          · rw [if_pos ⟨d, c, by omega⟩, if_pos d]
          · rw [if_neg (fun z => d z.1), if_neg d]
        exact ⟨ni_in (by omega) ht, ni_in (by omega) hs, kk _ (nset I v _ s (v t) hN e) (fun a => by rw [e a]; split; exact vt; exact hv a) (fun o k h => am_u_nq (by omega)) _⟩
    · rw [if_neg (fun z => c (hbit.mp z))]
      have e : lyS w s t v = v := by
        funext a
        unfold lyS
        rw [if_neg (fun z => c z.2.1)]
      exact kk I (by rw [e]; exact hN) (by rw [e]; exact hv) (fun _ _ _ => rfl) _
  have ROW : ∀ (m : Nat) (I : am_I) (v : Nat → Nat) (s t M : Nat) (x2 : Int32) (l5 : Option Value), 8 - t = m → t ≤ 8 → s < 8 → M ≤ 600 → (∀ a, lyRow w t s v a ≤ M) → btR I 169 (useW w) → nmR I 171 (lyRow w t s v) → (∀ (I' : am_I) (l4 l5 : Option Value), nmR I' 171 (lyRow w 8 s v) → (∀ a, lyRow w 8 s v a ≤ M) → (∀ o k, o ≠ 171 → I' o k = I o k) → am_go none d0 231 (172, [some (.ref 163), some (.ref x), some (.int x2), some (.int (ni (s + 1))), l4, l5], [], (am_SG, I', J, Pf), 0, 0) P) → am_go none d0 231 (181, [some (.ref 163), some (.ref x), some (.int x2), some (.int (ni s)), some (.int (ni t)), l5], [], (am_SG, I, J, Pf), 0, 0) P := by
    intro m
    induction m with
    | zero =>
      intro I v s t M x2 l5 hm ht hs hM hv hB hN kk
      have : t = 8 := by omega
      subst this
      refine v231_181G hp hx ?_
      rw [if_pos (by decide), ni_p1]
      exact kk I _ _ hN hv (fun _ _ _ => rfl)
    | succ m ih =>
      intro I v s t M x2 l5 hm ht hs hM hv hB hN kk
      exact ST I _ s t M x2 hM hv hs (by omega) hB hN (fun I' f1 f0 f2 l5 => ih I' v s (t + 1) M x2 l5 (by omega) (by omega) hs hM f0 (fun a ha u hu => by rw [f2 _ _ (by omega)]; exact hB a ha u hu) f1 (fun I'' l4 l5 g1 g0 g2 => kk I'' l4 l5 g1 g0 (fun o k e => (g2 o k e).trans (f2 o k e)))) l5
  have ALL : ∀ (m : Nat) (I : am_I) (v : Nat → Nat) (s M : Nat) (x2 : Int32) (l4 l5 : Option Value), 8 - s = m → s ≤ 8 → M ≤ 600 → (∀ a, lyAll w s v a ≤ M) → btR I 169 (useW w) → nmR I 171 (lyAll w s v) → (∀ (I' : am_I) (l4 l5 : Option Value), nmR I' 171 (lyAll w 8 v) → (∀ a, lyAll w 8 v a ≤ M) → (∀ o k, o ≠ 171 → I' o k = I o k) → am_go none d0 231 (246, [some (.ref 163), some (.ref x), some (.int x2), some (.int 0), l4, l5], [], (am_SG, I', J, Pf), 0, 0) P) → am_go none d0 231 (172, [some (.ref 163), some (.ref x), some (.int x2), some (.int (ni s)), l4, l5], [], (am_SG, I, J, Pf), 0, 0) P := by
    intro m
    induction m with
    | zero =>
      intro I v s M x2 l4 l5 hm hs hM hv hB hN kk
      have : s = 8 := by omega
      subst this
      refine v231_172G hp hx ?_
      rw [if_pos (by decide)]
      exact kk I _ _ hN hv (fun _ _ _ => rfl)
    | succ m ih =>
      intro I v s M x2 l4 l5 hm hs hM hv hB hN kk
      refine v231_172G hp hx ?_
      rw [if_neg (fun z => absurd ((gle 8 (by omega) (by omega)).mp z) (by omega)), ni_0]
      exact ROW 8 I _ s 0 M x2 _ rfl (by omega) (by omega) hM hv hB hN (fun I' l4 l5 f1 f0 f2 => ih I' v (s + 1) M x2 l4 l5 (by omega) (by omega) hM f0 (fun a ha u hu => by rw [f2 _ _ (by omega)]; exact hB a ha u hu) f1 (fun I'' l4 l5 g1 g0 g2 => kk I'' l4 l5 g1 g0 (fun o k e => (g2 o k e).trans (f2 o k e))))
  have DR : ∀ (m : Nat) (I : am_I) (v : Nat → Nat) (d j M : Nat) (l4 l5 : Option Value), wN w 4 - d = m → d ≤ wN w 4 → M ≤ 600 → I x = w → (∀ a, lyDrs w d v a ≤ M + d) → nmR I 171 (lyDrs w d v) → (∀ (I' : am_I) (l3 l4 l5 : Option Value), nmR I' 171 (lyDrs w (wN w 4) v) → (∀ a, lyDrs w (wN w 4) v a ≤ M + wN w 4) → (∀ o k, o ≠ 171 → I' o k = I o k) → am_go none d0 231 (164, [some (.ref 163), some (.ref x), some (.int (ni (j + 1))), l3, l4, l5], [], (am_SG, I', J, Pf), 0, 0) P) → am_go none d0 231 (246, [some (.ref 163), some (.ref x), some (.int (ni j)), some (.int (ni d)), l4, l5], [], (am_SG, I, J, Pf), 0, 0) P := by
    intro m
    induction m with
    | zero =>
      intro I v d j M l4 l5 hm hd hM hw hv hN kk
      have : d = wN w 4 := by omega
      subst this
      refine v231_246G hp hx ⟨by decide, ?_⟩
      rw [hw, show w (Int32.toNatClampNeg 4) = ni (wN w 4) from w4, if_pos ((ni_le (by omega) (by omega)).mpr (by omega)), ni_p1]
      exact kk I _ _ _ hN hv (fun _ _ _ => rfl)
    | succ m ih =>
      intro I v d j M l4 l5 hm hd hM hw hv hN kk
      obtain ⟨g1, g2, g3, g4, g5⟩ := hG.dr (d := d) (by omega)
      refine v231_246G hp hx ⟨by decide, ?_⟩
      have vs := hv (wN w (1008 + 4 * d))
      have vt := hv (wN w (1008 + 4 * d + 1))
      rw [hw, show w (Int32.toNatClampNeg 4) = ni (wN w 4) from w4, if_neg (fun z => absurd ((ni_le (by omega) (by omega)).mp z) (by omega)), i4, ni_p1, show (ni (1008 + 4 * d)).toNatClampNeg = 1008 + 4 * d from ni_nat (by omega), show (ni (1008 + 4 * d + 1)).toNatClampNeg = 1008 + 4 * d + 1 from ni_nat (by omega), g2, g4, show (ni (wN w (1008 + 4 * d))).toNatClampNeg = wN w (1008 + 4 * d) from ni_nat (by omega), show (ni (wN w (1008 + 4 * d + 1))).toNatClampNeg = wN w (1008 + 4 * d + 1) from ni_nat (by omega), hN _ g1, hN _ g3, ni_p1, ni_p1]
      refine ⟨ni_in (by omega) (by omega), ni_in (by omega) (by omega), ni_in (by omega) g3, ni_in (by omega) g1, ?_⟩
      have e9 : lyDrs w (d + 1) v = lyDr w d (lyDrs w d v) := rfl
      by_cases c : lyDrs w d v (wN w (1008 + 4 * d + 1)) < lyDrs w d v (wN w (1008 + 4 * d))
      · rw [if_pos ((ni_lt (by omega) (by omega)).mpr c)]
        have e : lyDrs w (d + 1) v = lyDrs w d v := by
          rw [e9]
          funext a
          unfold lyDr
          rw [if_neg (by omega)]
        exact ih I v (d + 1) j M _ _ (by omega) (by omega) hM hw (by rw [e]; intro a; have := hv a; omega) (by rw [e]; exact hN) kk
      · rw [if_neg (fun z => c ((ni_lt (by omega) (by omega)).mp z))]
        have e : ∀ a, lyDrs w (d + 1) v a = if a = wN w (1008 + 4 * d) then lyDrs w d v (wN w (1008 + 4 * d + 1)) + 1 else lyDrs w d v a := by
          intro a
          rw [e9]
          unfold lyDr
          by_cases z : a = wN w (1008 + 4 * d)
          · rw [if_pos ⟨z, by omega⟩, if_pos z]
          · rw [if_neg (fun y => z y.1), if_neg z]
        refine ⟨ni_in (by omega) g3, ni_in (by omega) g1, ih _ v (d + 1) j M _ _ (by omega) (by omega) hM ((am_u_o hx71).trans hw) (fun a => ?_) (nset I _ _ _ _ hN e) (fun I' l3 l4 l5 f1 f0 f2 => kk I' l3 l4 l5 f1 f0 (fun o k e => (f2 o k e).trans (am_u_nq (by omega))))⟩
        rw [e a]
        have := hv a
        split <;> omega
  intro m
  induction m with
  | zero =>
    intro I j l3 l4 l5 hm hj hw hB hN hv kk
    have : j = 64 := by omega
    subst this
    refine v231_164G hp hx ?_
    rw [if_pos (by decide)]
    exact kk I hN hv (fun _ _ _ => rfl)
  | succ m ih =>
    intro I j l3 l4 l5 hm hj hw hB hN hv kk
    refine v231_164G hp hx ?_
    rw [if_neg (fun z => absurd ((gle 64 (by omega) (by omega)).mp z) (by omega)), ni_0]
    refine ALL 8 I (lyW w j) 0 (8 * j) _ _ _ rfl (by omega) (by omega) hv hB hN (fun I' l4 l5 f1 f0 f2 => ?_)
    rw [ni_0]
    refine DR _ I' (lyAll w 8 (lyW w j)) 0 j (8 * j) _ _ rfl (Nat.zero_le _) (by omega) (by rw [← hw]; funext k; exact f2 _ _ hx71) f0 f1 (fun I'' l3 l4 l5 g1 g0 g2 => ?_)
    have hfr : ∀ o k, o ≠ 171 → I'' o k = I o k := fun o k e => (g2 o k e).trans (f2 o k e)
    refine ih I'' (j + 1) l3 l4 l5 (by omega) (by omega) (by rw [← hw]; funext k; exact hfr _ _ hx71) (fun a ha u hu => by rw [hfr _ _ (by omega)]; exact hB a ha u hu) g1 (fun s => ?_) (fun I3 e1 e0 e2 => kk I3 e1 e0 (fun o k e => (e2 o k e).trans (hfr o k e)))
    have := g0 s
    show lyDrs w (wN w 4) (lyAll w 8 (lyW w j)) s ≤ 8 * (j + 1)
    omega
end
section
variable {d0 : Nat} {P : am_O → Prop} {J : am_J} {Pf : am_R} {w : Nat → Int32} {x : Nat}
theorem sr_sortsG (hp : am_PF Pf) (hx : am_SG[x]? = some (.inr (0, 1040))) (hx9 : x ≠ 169) (hx7 : x ≠ 170) (hx71 : x ≠ 171) (hG : WG w) {I : am_I} (hw : I x = w)
    (kk : ∀ I', rSo I' w → (∀ o k, o ≠ 169 → o ≠ 170 → o ≠ 171 → I' o k = I o k) → P (.inl none, (am_SG, I', J, Pf), 0, 0)) : am_mth (d0 + 2) 231 [.ref 163, .ref x] (am_SG, I, J, Pf) P := by
  obtain ⟨⟨w0, w0'⟩, ⟨w1, w1'⟩, ⟨w2, w2'⟩, ⟨w3, w3'⟩, ⟨w4, w4'⟩, wk⟩ := id hG.1
  -- drops
  have LD : ∀ (m : Nat) (I : am_I) (d : Nat) (l3 l4 l5 : Option Value), wN w 4 - d = m → d ≤ wN w 4 → I x = w → btR I 170 (fun s t => useW w s t || anyB d (drpD w s t)) → (∀ (I' : am_I) (l3 l4 l5 : Option Value), btR I' 170 (ndE w) → (∀ o k, o ≠ 170 → I' o k = I o k) → am_go none (d0 + 1) 231 (85, [some (.ref 163), some (.ref x), some (.int 0), l3, l4, l5], [], (am_SG, I', J, Pf), 0, 0) P) → am_go none (d0 + 1) 231 (40, [some (.ref 163), some (.ref x), some (.int (ni d)), l3, l4, l5], [], (am_SG, I, J, Pf), 0, 0) P := by
    intro m
    induction m with
    | zero =>
      intro I d l3 l4 l5 hm hd hw hB kk
      refine v231_40G hp hx ⟨by decide, ?_⟩
      rw [hw, show w (Int32.toNatClampNeg 4) = ni (wN w 4) from w4, if_pos ((ni_le (by omega) (by omega)).mpr (by omega))]
      have : d = wN w 4 := by omega
      subst this
      exact kk I _ _ _ hB (fun _ _ _ => rfl)
    | succ m ih =>
      intro I d l3 l4 l5 hm hd hw hB kk
      obtain ⟨g1, g2, g3, g4, g5⟩ := hG.dr (d := d) (by omega)
      refine v231_40G hp hx ⟨by decide, ?_⟩
      rw [hw, show w (Int32.toNatClampNeg 4) = ni (wN w 4) from w4, if_neg (fun z => absurd ((ni_le (by omega) (by omega)).mp z) (by omega)), i4, ni_p1, show (ni (1008 + 4 * d)).toNatClampNeg = 1008 + 4 * d from ni_nat (by omega), show (ni (1008 + 4 * d + 1)).toNatClampNeg = 1008 + 4 * d + 1 from ni_nat (by omega), g2, g4, show (ni (wN w (1008 + 4 * d))).toNatClampNeg = wN w (1008 + 4 * d) from ni_nat (by omega), ni_p1]
      refine ⟨ni_in (by omega) (by omega), ni_in (by omega) g1, ni_in (by omega) (by omega), ni_in (by omega) g1, ?_⟩
      refine ih _ (d + 1) _ _ _ (by omega) (by omega) ((am_u_o hx7).trans hw) (hB.set g1 (by omega) (fun a t ha ht => ?_)) (fun I' l3 l4 l5 f1 f2 => kk I' l3 l4 l5 f1 (fun o k e => (f2 o k e).trans (am_u_nq (by omega))))
      show (_ || (anyB d (drpD w a t) || drpD w a t d)) = _
      rw [← Bool.or_assoc]
      congr 1
      unfold drpD
      congr 1
      · exact decide_eq_decide.mpr eq_comm
      · exact decide_eq_decide.mpr eq_comm
  -- needs and layers begun
  have LI : ∀ (m : Nat) (I : am_I) (s : Nat) (l3 l4 l5 : Option Value), 8 - s = m → s ≤ 8 → (∀ i, i < s → I 170 i = I 169 i ∧ I 171 i = 0) → (∀ (I' : am_I) (l3 l4 l5 : Option Value), (∀ i, i < 8 → I' 170 i = I' 169 i ∧ I' 171 i = 0) → (∀ o k, o ≠ 170 → o ≠ 171 → I' o k = I o k) → am_go none (d0 + 1) 231 (40, [some (.ref 163), some (.ref x), some (.int 0), l3, l4, l5], [], (am_SG, I', J, Pf), 0, 0) P) → am_go none (d0 + 1) 231 (7, [some (.ref 163), some (.ref x), some (.int (ni s)), l3, l4, l5], [], (am_SG, I, J, Pf), 0, 0) P := by
    intro m
    induction m with
    | zero =>
      intro I s l3 l4 l5 hm hs hB kk
      have : s = 8 := by omega
      subst this
      refine v231_7G hp hx ?_
      rw [if_pos (by decide)]
      exact kk I _ _ _ hB (fun _ _ _ _ => rfl)
    | succ m ih =>
      intro I s l3 l4 l5 hm hs hB kk
      refine v231_7G hp hx ?_
      rw [if_neg (fun z => absurd ((gle 8 (by omega) (by omega)).mp z) (by omega)), ni_nat (by omega), ni_p1]
      refine ⟨ni_in (by omega) (by omega), ni_in (by omega) (by omega), ni_in (by omega) (by omega), ih _ (s + 1) _ _ _ (by omega) (by omega) (fun i hi => ?_) (fun I' l3 l4 l5 f1 f2 => kk I' l3 l4 l5 f1 (fun o k e1 e2 => (f2 o k e1 e2).trans (by rw [am_u_nq (by omega), am_u_nq (by omega)])))⟩
      by_cases c : i = s
      · subst c
        rw [am_u_nq (by omega), am_u_same, am_u_nq (by omega), am_u_nq (by omega), am_u_same]
        exact ⟨rfl, rfl⟩
      · rw [am_u_nq (by omega), am_u_nq (by omega), am_u_nq (by omega), am_u_nq (by omega), am_u_nq (by omega), am_u_nq (by omega)]
        exact hB i (by omega)
  refine am_mth_of rfl rfl (v231_0G hp hx (sr_usesG (d := d0) hp hx hx9 hG hw (fun I1 h1 h2 => am_backG (v231_5G hp hx ?_))))
  rw [ni_0]
  refine LI 8 I1 0 _ _ _ rfl (by omega) (fun i hi => absurd hi (by omega)) (fun I2 l3 l4 l5 h3 h4 => ?_)
  have w2 : I2 x = w := by rw [← hw]; funext k; rw [h4 _ _ hx7 hx71, h2 _ _ hx9]
  rw [ni_0]
  refine LD _ I2 0 _ _ _ rfl (Nat.zero_le _) w2 (fun s hs t ht => ?_) (fun I3 l3 l4 l5 h5 h6 => ?_)
  · rw [(h3 s hs).1, h4 _ _ (by omega) (by omega), h1 s hs t ht]
    show _ = (_ || false)
    rw [Bool.or_false]
  · rw [ni_0]
    refine rr_needG (w := w) (x := x) hp hx hx7 8 I3 0 _ _ rfl (by omega) h5 (fun I4 l3 l4 h7 h8 => ?_)
    have hf : ∀ o k, o ≠ 169 → o ≠ 170 → o ≠ 171 → I4 o k = I o k := fun o k e1 e2 e3 => by rw [h8 o k e2, h6 o k e2, h4 o k e2 e3, h2 o k e1]
    have hU : btR I4 169 (useW w) := fun s hs t ht => by rw [h8 _ _ (by omega), h6 _ _ (by omega), h4 _ _ (by omega) (by omega)]; exact h1 s hs t ht
    rw [ni_0]
    refine rr_layersG (w := w) (x := x) hp hx hx71 hG 64 I4 0 _ _ _ rfl (by omega) (by rw [← hw]; funext k; exact hf _ _ hx9 hx7 hx71) hU (fun s hs => ?_) (fun s => Nat.zero_le _) (fun I5 h9 _ h10 => kk I5 ⟨fun s hs t ht => by rw [h10 _ _ (by omega)]; exact hU s hs t ht, fun s hs t ht => by rw [h10 _ _ (by omega)]; exact h7 s hs t ht, h9⟩ (fun o k e1 e2 e3 => (h10 o k e3).trans (hf o k e1 e2 e3)))
    rw [h8 _ _ (by omega), h6 _ _ (by omega), (h3 s hs).2]
    rfl
end
section
variable {d0 : Nat} {P : am_O → Prop} {J : am_J} {Pf : am_R}
theorem sr_copiesG (hp : am_PF Pf) {x y L m : Nat} (hx : am_SG[x]? = some (.inr (0, L))) (hy : am_SG[y]? = some (.inr (0, m))) (hxy : x ≠ y) (hL : m ≤ L) (hm : m < 100000) {n : Nat} (hn : n ≤ m) {I : am_I}
    (kk : ∀ I', (∀ i, i < n → I' y i = I x i) → (∀ o k, ¬ (o = y ∧ k < n) → I' o k = I o k) → P (.inl none, (am_SG, I', J, Pf), 0, 0)) : am_mth (d0 + 1) 207 [.ref 163, .ref x, .ref y, .int (ni n)] (am_SG, I, J, Pf) P := by
  have L : ∀ (q : Nat) (I : am_I) (k : Nat) (l0 : Option Value), n - k = q → k ≤ n → (∀ I', (∀ i, k ≤ i → i < n → I' y i = I x i) → (∀ o i, ¬ (o = y ∧ k ≤ i ∧ i < n) → I' o i = I o i) → P (.inl none, (am_SG, I', J, Pf), 0, 0)) → am_go none d0 207 (3, [l0, some (.ref x), some (.ref y), some (.int (ni n)), some (.int (ni k))], [], (am_SG, I, J, Pf), 0, 0) P := by
    intro q
    induction q with
    | zero =>
      intro I k l0 hq hk kk
      refine v207_3G hp hx hy ?_
      rw [if_pos ((ni_le (by omega) (by omega)).mpr (by omega))]
      exact kk I (fun i h1 h2 => absurd h2 (by omega)) (fun _ _ _ => rfl)
    | succ q ih =>
      intro I k l0 hq hk kk
      refine v207_3G hp hx hy ?_
      rw [if_neg (fun z => absurd ((ni_le (by omega) (by omega)).mp z) (by omega)), ni_nat (by omega), ni_p1]
      refine ⟨ni_in (by omega) (by omega), ni_in (by omega) (by omega), ih _ (k + 1) _ (by omega) (by omega) (fun I' f1 f2 => kk I' (fun i h1 h2 => ?_) (fun o i h => ?_))⟩
      · by_cases c : i = k
        · subst c
          rw [f2 _ _ (by omega), am_u_same]
        · rw [f1 i (by omega) h2, am_u_nq (by omega)]
      · rw [f2 _ _ (by omega), am_u_nq (by omega)]
  refine am_mth_of rfl rfl (v207_0G hp hx hy ?_)
  rw [ni_0]
  exact L n I 0 _ rfl (Nat.zero_le _) (fun I' f1 f2 => kk I' (fun i h => f1 i (Nat.zero_le _) h) (fun o k h => f2 o k (by omega)))
end
section
variable {d0 : Nat} {P : am_O → Prop} {J : am_J} {Pf : am_R}
theorem sr_clearsG (hp : am_PF Pf) {I : am_I} (kk : ∀ I', I' 166 = w0T (I 166) → (∀ o k, o ≠ 166 → I' o k = I o k) → P (.inl none, (am_SG, I', J, Pf), 0, 0)) : am_mth (d0 + 1) 208 [.ref 163] (am_SG, I, J, Pf) P := by
  have L : ∀ (q : Nat) (I1 : am_I) (k : Nat), 1040 - k = q → k ≤ 1040 → (∀ i, i < k → I1 166 i = 0) → (∀ i, k ≤ i → I1 166 i = I 166 i) → (∀ I', I' 166 = w0T (I 166) → (∀ o k, o ≠ 166 → I' o k = I1 o k) → P (.inl none, (am_SG, I', J, Pf), 0, 0)) → am_go none d0 208 (2, [some (.ref 163), some (.int (ni k))], [], (am_SG, I1, J, Pf), 0, 0) P := by
    intro q
    induction q with
    | zero =>
      intro I k hq hk h0 h1 kk
      have : k = 1040 := by omega
      subst this
      refine v208_2G hp ?_
      rw [if_pos (by decide)]
      refine kk _ (funext fun i => ?_) (fun o k h => am_u_nq (by omega))
      unfold w0T
      by_cases ci : i < 1040
      · rw [if_pos ci]
        unfold w0
        by_cases c : i = 5
        · subst c; rw [am_u_same, fu_s]
        · rw [am_u_nq (by omega), fu_n c]; exact h0 i ci
      · rw [if_neg ci, am_u_nq (by omega)]
        exact h1 i (by omega)
    | succ q ih =>
      intro I k hq hk h0 h1 kk
      refine v208_2G hp ?_
      rw [if_neg (fun z => absurd ((gle 1040 (by omega) (by omega)).mp z) (by omega)), ni_nat (by omega), ni_p1]
      refine ⟨ni_in (by omega) (by omega), ih _ (k + 1) (by omega) (by omega) (fun i hi => ?_) (fun i hi => by rw [am_u_nq (by omega)]; exact h1 i (by omega)) (fun I' f1 f2 => kk I' f1 (fun o k h => (f2 o k h).trans (am_u_nq (by omega))))⟩
      by_cases c : i = k
      · subst c; exact am_u_same
      · rw [am_u_nq (by omega)]; exact h0 i (by omega)
  refine am_mth_of rfl rfl (v208_0G hp ?_)
  rw [ni_0]
  exact L 1040 I 0 rfl (by omega) (fun i hi => absurd hi (by omega)) (fun _ _ => rfl) kk
end
section
variable {d0 : Nat} {P : am_O → Prop} {J : am_J} {Pf : am_R}
theorem sr_setsG (hp : am_PF Pf) {I : am_I} {w : Nat → Int32} (hG : WG w) (hw : ∀ i, i < 1040 → I 166 i = w i) (hhi : ∀ i, 1040 ≤ i → I 167 i = w i)
    (kk : ∀ I', I' 167 = w → rSo I' w → I' 163 29 = 0 → I' 163 34 = 0 → I' 163 65 = 0 → I' 163 35 = 0 → I' 163 48 = 0 → I' 163 46 = 0 → (∀ i, i < 25 → I' 180 i = 0) → (∀ o k, ¬ (o = 163 ∧ (k = 29 ∨ k = 34 ∨ k = 65 ∨ k = 35 ∨ k = 48 ∨ k = 46)) → o ≠ 167 → ¬ (169 ≤ o ∧ o ≤ 171) → o ≠ 180 → I' o k = I o k) → P (.inl none, (am_SG, I', J, Pf), 0, 0)) : am_mth (d0 + 3) 209 [.ref 163] (am_SG, I, J, Pf) P := by
  have L : ∀ (q : Nat) (I1 : am_I) (k : Nat), 25 - k = q → k ≤ 25 → I1 167 = w → (∀ i, i < k → I1 180 i = 0) → (∀ I', I' 167 = w → rSo I' w → (∀ i, i < 25 → I' 180 i = 0) → (∀ o k, ¬ (169 ≤ o ∧ o ≤ 171) → o ≠ 180 → I' o k = I1 o k) → P (.inl none, (am_SG, I', J, Pf), 0, 0)) → am_go none (d0 + 2) 209 (47, [some (.ref 163), some (.int (ni k))], [], (am_SG, I1, J, Pf), 0, 0) P := by
    intro q
    induction q with
    | zero =>
      intro I1 k hq hk hw h0 kk
      have : k = 25 := by omega
      subst this
      refine v209_47G hp ?_
      rw [if_pos (by decide)]
      refine sr_sortsG (d0 := d0) (w := w) hp rfl (by omega) (by omega) (by omega) hG hw (fun I' f1 f2 => am_backG (v209_74G hp (kk I' ?_ f1 (fun i hi => ?_) (fun o k e1 e2 => f2 o k (by omega) (by omega) (by omega)))))
      · rw [← hw]; funext k; exact f2 _ _ (by omega) (by omega) (by omega)
      · rw [f2 _ _ (by omega) (by omega) (by omega)]; exact h0 i hi
    | succ q ih =>
      intro I1 k hq hk hw h0 kk
      refine v209_47G hp ?_
      rw [if_neg (fun z => absurd ((gle 25 (by omega) (by omega)).mp z) (by omega)), ni_nat (by omega), ni_p1]
      refine ⟨ni_in (by omega) (by omega), ih _ (k + 1) (by omega) (by omega) ((am_u_o (by omega)).trans hw) (fun i hi => ?_) (fun I' f0 f1 f2 f3 => kk I' f0 f1 f2 (fun o k e1 e2 => (f3 o k e1 e2).trans (am_u_nq (by omega))))⟩
      by_cases c : i = k
      · subst c; exact am_u_same
      · rw [am_u_nq (by omega)]; exact h0 i (by omega)
  refine am_mth_of rfl rfl (v209_0G hp ?_)
  rw [show (1040 : Int32) = ni 1040 from rfl]
  refine sr_copiesG (d0 := d0 + 1) (x := 166) (y := 167) (L := 1040) (m := 1040) hp rfl rfl (by omega) (by omega) (by omega) (by omega) (fun I1 f1 f2 => am_backG (v209_15G hp ?_))
  have e1 : I1 167 = w := by
    funext i
    by_cases c : i < 1040
    · rw [f1 i c, hw i c]
    · rw [f2 _ _ (by omega)]; exact hhi i (by omega)
  rw [ni_0]
  refine L 25 _ 0 rfl (by omega) ?_ (fun i hi => absurd hi (by omega)) (fun I' g0 g1 g2 g3 => ?_)
  · rw [am_u_o (by omega), am_u_o (by omega), am_u_o (by omega), am_u_o (by omega), am_u_o (by omega), am_u_o (by omega)]; exact e1
  · have g4 : ∀ o k, ¬ (o = 163 ∧ (k = 29 ∨ k = 34 ∨ k = 65 ∨ k = 35 ∨ k = 48 ∨ k = 46)) → o ≠ 167 → ¬ (169 ≤ o ∧ o ≤ 171) → o ≠ 180 → I' o k = I o k := fun o k e1 e2 e3 e4 => by
      rw [g3 o k e3 e4, am_u_nq (by omega), am_u_nq (by omega), am_u_nq (by omega), am_u_nq (by omega), am_u_nq (by omega), am_u_nq (by omega), f2 _ _ (by omega)]
    refine kk I' g0 g1 ?_ ?_ ?_ ?_ ?_ ?_ g2 g4
    all_goals (rw [g3 _ _ (by omega) (by omega)]; simp [am_u, ni])
end
