/-! Walks, leaves inlined: the reference, reading -/
theorem sw_n {x v : Int32} {i : Int} (h : ¬ x = v) (e : v.toInt = i) : x.toInt ≠ i := fun z => h (Int32.toInt_inj.mp (z.trans e.symm))
theorem vi_t {c : Prop} [Decidable c] {A B : Prop} (h : if c then A else B) (hc : c) : A := by rwa [if_pos hc] at h
theorem vi_f {c : Prop} [Decidable c] {A B : Prop} (h : if c then A else B) (hc : ¬ c) : B := by rwa [if_neg hc] at h
theorem am_bkI {sc : Option (Nat × (Nat → Int32))} {d y pc k n : Nat} {ls : am_L} {st r : List Value} {I I' : am_I} {J J' : am_J} {Pf Pf' : am_R} {thr : Bool} {P : am_O → Prop} {x : Int32} (h : am_go sc d y (pc + 3, ls, .int x :: r, (am_SH, I', J', Pf'), k, n) P) : am_af sc d y pc ls st r (am_SH, I, J, Pf) k n thr P (.inl (some (.int x)), (am_SH, I', J', Pf'), 0, 0) := am_back h
theorem am_bkJ {sc : Option (Nat × (Nat → Int32))} {d y pc k n : Nat} {ls : am_L} {st r : List Value} {I I' : am_I} {J J' : am_J} {Pf Pf' : am_R} {thr : Bool} {P : am_O → Prop} {x : Int64} (h : am_go sc d y (pc + 3, ls, .long x :: r, (am_SH, I', J', Pf'), k, n) P) : am_af sc d y pc ls st r (am_SH, I, J, Pf) k n thr P (.inl (some (.long x)), (am_SH, I', J', Pf'), 0, 0) := am_back h
theorem am_bkR {sc : Option (Nat × (Nat → Int32))} {d y pc k n : Nat} {ls : am_L} {st r : List Value} {I I' : am_I} {J J' : am_J} {Pf Pf' : am_R} {thr : Bool} {P : am_O → Prop} {x : Nat} (h : am_go sc d y (pc + 3, ls, .ref x :: r, (am_SH, I', J', Pf'), k, n) P) : am_af sc d y pc ls st r (am_SH, I, J, Pf) k n thr P (.inl (some (.ref x)), (am_SH, I', J', Pf'), 0, 0) := am_back h
theorem am_bkV {sc : Option (Nat × (Nat → Int32))} {d y pc k n : Nat} {ls : am_L} {st r : List Value} {I I' : am_I} {J J' : am_J} {Pf Pf' : am_R} {thr : Bool} {P : am_O → Prop} (h : am_go sc d y (pc + 3, ls, r, (am_SH, I', J', Pf'), k, n) P) : am_af sc d y pc ls st r (am_SH, I, J, Pf) k n thr P (.inl none, (am_SH, I', J', Pf'), 0, 0) := am_back h
-- feed (IIIII)I
theorem v192_0 {sc : Option (Nat × (Nat → Int32))} {d k n : Nat} {P : am_O → Prop} {I : am_I} {J : am_J} {Pf : am_R} (hp : am_PF Pf) {x1 : Int32} {x2 : Int32} {x3 : Int32} {x4 : Int32} {x5 : Int32} {l6 : Option Value} {l7 : Option Value} (q : (if ((I 163 2) + 20) ≤ 600 then (am_go sc d 192 (23, [some (.ref 163), some (.int x1), some (.int x2), some (.int x3), some (.int x4), some (.int x5), some (.int 0), l7], [], (am_SH, am_u I 163 0 0, J, Pf), k, n) P) else (P (.inl (some (.int (-1))), (am_SH, am_u I 163 0 0, J, Pf), k, n)))) : am_go sc d 192 (0, [some (.ref 163), some (.int x1), some (.int x2), some (.int x3), some (.int x4), some (.int x5), l6, l7], [], (am_SH, I, J, Pf), k, n) P := by
  refine am_s_aload_n rfl dc192_0.1.1.1 ?_
  refine am_s_iconst am_cc0 dc192_0.1.1.2 ?_
  refine am_s_putI dc192_0.1.2.1 rfl rfl rfl rfl ?_
  refine am_s_aload_n rfl dc192_0.1.2.2 ?_
  refine am_x_getI (x := I 163 2) dc192_0.2.1.1 rfl rfl (Or.inl rfl) rfl ?_
  refine am_s_bipush am_cb20 dc192_0.2.1.2 ?_
  refine am_s_iadd dc192_0.2.2.1 ?_
  refine am_s_sipush am_cs600 dc192_0.2.2.2 ?_
  refine am_s_ic_le dc192_1.1.1.1 rfl (fun c1 => ?_) (fun c1 => ?_)
  · refine am_s_iconst am_cc0 dc192_1.1.2.2 ?_
    refine am_s_istore (ls' := [some (.ref 163), some (.int x1), some (.int x2), some (.int x3), some (.int x4), some (.int x5), some (.int 0), l7]) rfl rfl dc192_1.2.1.1 ?_
    exact (vi_t q c1)
  · refine am_s_iconst am_ccm1 dc192_1.1.1.2 ?_
    exact am_s_ireturn dc192_1.1.2.1 rfl ((vi_f q c1))
theorem v192_23 {sc : Option (Nat × (Nat → Int32))} {d k n : Nat} {P : am_O → Prop} {I : am_I} {J : am_J} {Pf : am_R} (hp : am_PF Pf) {x1 : Int32} {x2 : Int32} {x3 : Int32} {x4 : Int32} {x5 : Int32} {x6 : Int32} {l7 : Option Value} (q : (if 20 ≤ x6 then (P (.inl (some (.int (I 163 2))), (am_SH, I, J, Pf), k, n)) else (if 4 ≤ x6 then (if 8 ≤ x6 then (if 12 ≤ x6 then (if 16 ≤ x6 then (am_in (I 163 2) 600 = true) ∧ (am_go sc d 192 (23, [some (.ref 163), some (.int x1), some (.int x2), some (.int x3), some (.int x4), some (.int x5), some (.int (x6 + 1)), some (.int x5)], [], (am_SH, am_u (am_u I 165 (Int32.toNatClampNeg (I 163 2)) ((x5 >>> ((24 - (8 * (x6 - x6 / 4 * 4))) &&& 31)) &&& 255)) 163 2 ((I 163 2) + 1), J, Pf), k, n) P) else (am_in (I 163 2) 600 = true) ∧ (am_go sc d 192 (23, [some (.ref 163), some (.int x1), some (.int x2), some (.int x3), some (.int x4), some (.int x5), some (.int (x6 + 1)), some (.int x4)], [], (am_SH, am_u (am_u I 165 (Int32.toNatClampNeg (I 163 2)) ((x4 >>> ((24 - (8 * (x6 - x6 / 4 * 4))) &&& 31)) &&& 255)) 163 2 ((I 163 2) + 1), J, Pf), k, n) P)) else (am_in (I 163 2) 600 = true) ∧ (am_go sc d 192 (23, [some (.ref 163), some (.int x1), some (.int x2), some (.int x3), some (.int x4), some (.int x5), some (.int (x6 + 1)), some (.int x3)], [], (am_SH, am_u (am_u I 165 (Int32.toNatClampNeg (I 163 2)) ((x3 >>> ((24 - (8 * (x6 - x6 / 4 * 4))) &&& 31)) &&& 255)) 163 2 ((I 163 2) + 1), J, Pf), k, n) P)) else (am_in (I 163 2) 600 = true) ∧ (am_go sc d 192 (23, [some (.ref 163), some (.int x1), some (.int x2), some (.int x3), some (.int x4), some (.int x5), some (.int (x6 + 1)), some (.int x2)], [], (am_SH, am_u (am_u I 165 (Int32.toNatClampNeg (I 163 2)) ((x2 >>> ((24 - (8 * (x6 - x6 / 4 * 4))) &&& 31)) &&& 255)) 163 2 ((I 163 2) + 1), J, Pf), k, n) P)) else (am_in (I 163 2) 600 = true) ∧ (am_go sc d 192 (23, [some (.ref 163), some (.int x1), some (.int x2), some (.int x3), some (.int x4), some (.int x5), some (.int (x6 + 1)), some (.int x1)], [], (am_SH, am_u (am_u I 165 (Int32.toNatClampNeg (I 163 2)) ((x1 >>> ((24 - (8 * (x6 - x6 / 4 * 4))) &&& 31)) &&& 255)) 163 2 ((I 163 2) + 1), J, Pf), k, n) P)))) : am_go sc d 192 (23, [some (.ref 163), some (.int x1), some (.int x2), some (.int x3), some (.int x4), some (.int x5), some (.int x6), l7], [], (am_SH, I, J, Pf), k, n) P := by
  refine am_s_iload rfl dc192_1.2.1.2 ?_
  refine am_s_bipush am_cb20 dc192_1.2.2.1 ?_
  refine am_s_ic_ge dc192_1.2.2.2 rfl (fun c1 => ?_) (fun c1 => ?_)
  · refine am_s_aload_n rfl dc192_7.2.2.1 ?_
    refine am_x_getI (x := I 163 2) dc192_7.2.2.2 rfl rfl (Or.inl rfl) rfl ?_
    exact am_s_ireturn dc192_8 rfl ((vi_t q c1))
  · refine am_s_iload rfl dc192_2.1.1.1 ?_
    refine am_s_iconst am_cc4 dc192_2.1.1.2 ?_
    refine am_s_ic_ge dc192_2.1.2.1 rfl (fun c2 => ?_) (fun c2 => ?_)
    · refine am_s_iload rfl dc192_2.2.1.2 ?_
      refine am_s_bipush am_cb8 dc192_2.2.2.1 ?_
      refine am_s_ic_ge dc192_2.2.2.2 rfl (fun c3 => ?_) (fun c3 => ?_)
      · refine am_s_iload rfl dc192_3.1.2.1 ?_
        refine am_s_bipush am_cb12 dc192_3.1.2.2 ?_
        refine am_s_ic_ge dc192_3.2.1.1 rfl (fun c4 => ?_) (fun c4 => ?_)
        · refine am_s_iload rfl dc192_3.2.2.2 ?_
          refine am_s_bipush am_cb16 dc192_4.1.1.1 ?_
          refine am_s_ic_ge dc192_4.1.1.2 rfl (fun c5 => ?_) (fun c5 => ?_)
          · refine am_s_iload rfl dc192_4.2.1.1 ?_
            refine am_s_istore (ls' := [some (.ref 163), some (.int x1), some (.int x2), some (.int x3), some (.int x4), some (.int x5), some (.int x6), some (.int x5)]) rfl rfl dc192_4.2.1.2 ?_
            refine am_s_aload_n rfl dc192_4.2.2.1 ?_
            refine am_s_getR (r := 165) dc192_4.2.2.2 rfl rfl rfl (hp _ _ _ rfl) ?_
            refine am_s_aload_n rfl dc192_5.1.1.1 ?_
            refine am_x_getI (x := I 163 2) dc192_5.1.1.2 rfl rfl (Or.inl rfl) rfl ?_
            refine am_s_iload rfl dc192_5.1.2.1 ?_
            refine am_s_bipush am_cb24 dc192_5.1.2.2 ?_
            refine am_s_bipush am_cb8 dc192_5.2.1.1 ?_
            refine am_s_iload rfl dc192_5.2.1.2 ?_
            refine am_s_iconst am_cc4 dc192_5.2.2.1 ?_
            refine am_s_irem (by decide) dc192_5.2.2.2 ?_
            refine am_s_imul dc192_6.1.1.1 ?_
            refine am_s_isub dc192_6.1.1.2 ?_
            refine am_s_ishr dc192_6.1.2.1 ?_
            refine am_s_sipush am_cs255 dc192_6.1.2.2 ?_
            refine am_s_iand dc192_6.2.1.1 ?_
            refine am_s_iastore dc192_6.2.1.2 rfl ((vi_t (vi_t (vi_t (vi_t (vi_f q c1) c2) c3) c4) c5).1) rfl ?_
            refine am_s_aload_n rfl dc192_6.2.2.1 ?_
            refine am_s_dup rfl dc192_6.2.2.2 ?_
            refine am_x_getI (x := I 163 2) dc192_7.1.1.1 rfl rfl (Or.inl rfl) rfl ?_
            refine am_s_iconst am_cc1 dc192_7.1.1.2 ?_
            refine am_s_iadd dc192_7.1.2.1 ?_
            refine am_s_putI dc192_7.1.2.2 rfl rfl rfl rfl ?_
            refine am_s_iinc (ls' := [some (.ref 163), some (.int x1), some (.int x2), some (.int x3), some (.int x4), some (.int x5), some (.int (x6 + 1)), some (.int x5)]) am_cc1 rfl rfl dc192_7.2.1.1 ?_
            refine am_s_goto rfl dc192_7.2.1.2 ?_
            exact (vi_t (vi_t (vi_t (vi_t (vi_f q c1) c2) c3) c4) c5).2
          · refine am_s_iload rfl dc192_4.1.2.1 ?_
            refine am_s_goto rfl dc192_4.1.2.2 ?_
            refine am_s_istore (ls' := [some (.ref 163), some (.int x1), some (.int x2), some (.int x3), some (.int x4), some (.int x5), some (.int x6), some (.int x4)]) rfl rfl dc192_4.2.1.2 ?_
            refine am_s_aload_n rfl dc192_4.2.2.1 ?_
            refine am_s_getR (r := 165) dc192_4.2.2.2 rfl rfl rfl (hp _ _ _ rfl) ?_
            refine am_s_aload_n rfl dc192_5.1.1.1 ?_
            refine am_x_getI (x := I 163 2) dc192_5.1.1.2 rfl rfl (Or.inl rfl) rfl ?_
            refine am_s_iload rfl dc192_5.1.2.1 ?_
            refine am_s_bipush am_cb24 dc192_5.1.2.2 ?_
            refine am_s_bipush am_cb8 dc192_5.2.1.1 ?_
            refine am_s_iload rfl dc192_5.2.1.2 ?_
            refine am_s_iconst am_cc4 dc192_5.2.2.1 ?_
            refine am_s_irem (by decide) dc192_5.2.2.2 ?_
            refine am_s_imul dc192_6.1.1.1 ?_
            refine am_s_isub dc192_6.1.1.2 ?_
            refine am_s_ishr dc192_6.1.2.1 ?_
            refine am_s_sipush am_cs255 dc192_6.1.2.2 ?_
            refine am_s_iand dc192_6.2.1.1 ?_
            refine am_s_iastore dc192_6.2.1.2 rfl ((vi_f (vi_t (vi_t (vi_t (vi_f q c1) c2) c3) c4) c5).1) rfl ?_
            refine am_s_aload_n rfl dc192_6.2.2.1 ?_
            refine am_s_dup rfl dc192_6.2.2.2 ?_
            refine am_x_getI (x := I 163 2) dc192_7.1.1.1 rfl rfl (Or.inl rfl) rfl ?_
            refine am_s_iconst am_cc1 dc192_7.1.1.2 ?_
            refine am_s_iadd dc192_7.1.2.1 ?_
            refine am_s_putI dc192_7.1.2.2 rfl rfl rfl rfl ?_
            refine am_s_iinc (ls' := [some (.ref 163), some (.int x1), some (.int x2), some (.int x3), some (.int x4), some (.int x5), some (.int (x6 + 1)), some (.int x4)]) am_cc1 rfl rfl dc192_7.2.1.1 ?_
            refine am_s_goto rfl dc192_7.2.1.2 ?_
            exact (vi_f (vi_t (vi_t (vi_t (vi_f q c1) c2) c3) c4) c5).2
        · refine am_s_iload_n rfl dc192_3.2.1.2 ?_
          refine am_s_goto rfl dc192_3.2.2.1 ?_
          refine am_s_istore (ls' := [some (.ref 163), some (.int x1), some (.int x2), some (.int x3), some (.int x4), some (.int x5), some (.int x6), some (.int x3)]) rfl rfl dc192_4.2.1.2 ?_
          refine am_s_aload_n rfl dc192_4.2.2.1 ?_
          refine am_s_getR (r := 165) dc192_4.2.2.2 rfl rfl rfl (hp _ _ _ rfl) ?_
          refine am_s_aload_n rfl dc192_5.1.1.1 ?_
          refine am_x_getI (x := I 163 2) dc192_5.1.1.2 rfl rfl (Or.inl rfl) rfl ?_
          refine am_s_iload rfl dc192_5.1.2.1 ?_
          refine am_s_bipush am_cb24 dc192_5.1.2.2 ?_
          refine am_s_bipush am_cb8 dc192_5.2.1.1 ?_
          refine am_s_iload rfl dc192_5.2.1.2 ?_
          refine am_s_iconst am_cc4 dc192_5.2.2.1 ?_
          refine am_s_irem (by decide) dc192_5.2.2.2 ?_
          refine am_s_imul dc192_6.1.1.1 ?_
          refine am_s_isub dc192_6.1.1.2 ?_
          refine am_s_ishr dc192_6.1.2.1 ?_
          refine am_s_sipush am_cs255 dc192_6.1.2.2 ?_
          refine am_s_iand dc192_6.2.1.1 ?_
          refine am_s_iastore dc192_6.2.1.2 rfl ((vi_f (vi_t (vi_t (vi_f q c1) c2) c3) c4).1) rfl ?_
          refine am_s_aload_n rfl dc192_6.2.2.1 ?_
          refine am_s_dup rfl dc192_6.2.2.2 ?_
          refine am_x_getI (x := I 163 2) dc192_7.1.1.1 rfl rfl (Or.inl rfl) rfl ?_
          refine am_s_iconst am_cc1 dc192_7.1.1.2 ?_
          refine am_s_iadd dc192_7.1.2.1 ?_
          refine am_s_putI dc192_7.1.2.2 rfl rfl rfl rfl ?_
          refine am_s_iinc (ls' := [some (.ref 163), some (.int x1), some (.int x2), some (.int x3), some (.int x4), some (.int x5), some (.int (x6 + 1)), some (.int x3)]) am_cc1 rfl rfl dc192_7.2.1.1 ?_
          refine am_s_goto rfl dc192_7.2.1.2 ?_
          exact (vi_f (vi_t (vi_t (vi_f q c1) c2) c3) c4).2
      · refine am_s_iload_n rfl dc192_3.1.1.1 ?_
        refine am_s_goto rfl dc192_3.1.1.2 ?_
        refine am_s_istore (ls' := [some (.ref 163), some (.int x1), some (.int x2), some (.int x3), some (.int x4), some (.int x5), some (.int x6), some (.int x2)]) rfl rfl dc192_4.2.1.2 ?_
        refine am_s_aload_n rfl dc192_4.2.2.1 ?_
        refine am_s_getR (r := 165) dc192_4.2.2.2 rfl rfl rfl (hp _ _ _ rfl) ?_
        refine am_s_aload_n rfl dc192_5.1.1.1 ?_
        refine am_x_getI (x := I 163 2) dc192_5.1.1.2 rfl rfl (Or.inl rfl) rfl ?_
        refine am_s_iload rfl dc192_5.1.2.1 ?_
        refine am_s_bipush am_cb24 dc192_5.1.2.2 ?_
        refine am_s_bipush am_cb8 dc192_5.2.1.1 ?_
        refine am_s_iload rfl dc192_5.2.1.2 ?_
        refine am_s_iconst am_cc4 dc192_5.2.2.1 ?_
        refine am_s_irem (by decide) dc192_5.2.2.2 ?_
        refine am_s_imul dc192_6.1.1.1 ?_
        refine am_s_isub dc192_6.1.1.2 ?_
        refine am_s_ishr dc192_6.1.2.1 ?_
        refine am_s_sipush am_cs255 dc192_6.1.2.2 ?_
        refine am_s_iand dc192_6.2.1.1 ?_
        refine am_s_iastore dc192_6.2.1.2 rfl ((vi_f (vi_t (vi_f q c1) c2) c3).1) rfl ?_
        refine am_s_aload_n rfl dc192_6.2.2.1 ?_
        refine am_s_dup rfl dc192_6.2.2.2 ?_
        refine am_x_getI (x := I 163 2) dc192_7.1.1.1 rfl rfl (Or.inl rfl) rfl ?_
        refine am_s_iconst am_cc1 dc192_7.1.1.2 ?_
        refine am_s_iadd dc192_7.1.2.1 ?_
        refine am_s_putI dc192_7.1.2.2 rfl rfl rfl rfl ?_
        refine am_s_iinc (ls' := [some (.ref 163), some (.int x1), some (.int x2), some (.int x3), some (.int x4), some (.int x5), some (.int (x6 + 1)), some (.int x2)]) am_cc1 rfl rfl dc192_7.2.1.1 ?_
        refine am_s_goto rfl dc192_7.2.1.2 ?_
        exact (vi_f (vi_t (vi_f q c1) c2) c3).2
    · refine am_s_iload_n rfl dc192_2.1.2.2 ?_
      refine am_s_goto rfl dc192_2.2.1.1 ?_
      refine am_s_istore (ls' := [some (.ref 163), some (.int x1), some (.int x2), some (.int x3), some (.int x4), some (.int x5), some (.int x6), some (.int x1)]) rfl rfl dc192_4.2.1.2 ?_
      refine am_s_aload_n rfl dc192_4.2.2.1 ?_
      refine am_s_getR (r := 165) dc192_4.2.2.2 rfl rfl rfl (hp _ _ _ rfl) ?_
      refine am_s_aload_n rfl dc192_5.1.1.1 ?_
      refine am_x_getI (x := I 163 2) dc192_5.1.1.2 rfl rfl (Or.inl rfl) rfl ?_
      refine am_s_iload rfl dc192_5.1.2.1 ?_
      refine am_s_bipush am_cb24 dc192_5.1.2.2 ?_
      refine am_s_bipush am_cb8 dc192_5.2.1.1 ?_
      refine am_s_iload rfl dc192_5.2.1.2 ?_
      refine am_s_iconst am_cc4 dc192_5.2.2.1 ?_
      refine am_s_irem (by decide) dc192_5.2.2.2 ?_
      refine am_s_imul dc192_6.1.1.1 ?_
      refine am_s_isub dc192_6.1.1.2 ?_
      refine am_s_ishr dc192_6.1.2.1 ?_
      refine am_s_sipush am_cs255 dc192_6.1.2.2 ?_
      refine am_s_iand dc192_6.2.1.1 ?_
      refine am_s_iastore dc192_6.2.1.2 rfl ((vi_f (vi_f q c1) c2).1) rfl ?_
      refine am_s_aload_n rfl dc192_6.2.2.1 ?_
      refine am_s_dup rfl dc192_6.2.2.2 ?_
      refine am_x_getI (x := I 163 2) dc192_7.1.1.1 rfl rfl (Or.inl rfl) rfl ?_
      refine am_s_iconst am_cc1 dc192_7.1.1.2 ?_
      refine am_s_iadd dc192_7.1.2.1 ?_
      refine am_s_putI dc192_7.1.2.2 rfl rfl rfl rfl ?_
      refine am_s_iinc (ls' := [some (.ref 163), some (.int x1), some (.int x2), some (.int x3), some (.int x4), some (.int x5), some (.int (x6 + 1)), some (.int x1)]) am_cc1 rfl rfl dc192_7.2.1.1 ?_
      refine am_s_goto rfl dc192_7.2.1.2 ?_
      exact (vi_f (vi_f q c1) c2).2
-- fine ()Z
theorem v193_0 {sc : Option (Nat × (Nat → Int32))} {d k n : Nat} {P : am_O → Prop} {I : am_I} {J : am_J} {Pf : am_R} (hp : am_PF Pf)  (q : (if (I 163 5) = (-1) then (P (.inl (some (.int 1)), (am_SH, I, J, Pf), k, n)) else (P (.inl (some (.int 0)), (am_SH, I, J, Pf), k, n)))) : am_go sc d 193 (0, [some (.ref 163)], [], (am_SH, I, J, Pf), k, n) P := by
  refine am_s_aload_n rfl dc193_0.1.1.1 ?_
  refine am_x_getI (x := I 163 5) dc193_0.1.1.2 rfl rfl (Or.inl rfl) rfl ?_
  refine am_s_iconst am_ccm1 dc193_0.1.2.1 ?_
  refine am_s_ic_ne dc193_0.1.2.2 rfl (fun c1 => ?_) (fun c1 => ?_)
  · refine am_s_iconst am_cc0 dc193_0.2.2.1 ?_
    exact am_s_zreturn dc193_0.2.2.2 rfl (by decide) ((vi_f q c1))
  · refine am_s_iconst am_cc1 dc193_0.2.1.1 ?_
    refine am_s_goto rfl dc193_0.2.1.2 ?_
    exact am_s_zreturn dc193_0.2.2.2 rfl (by decide) ((vi_t q (Decidable.not_not.mp c1)))
-- marks (II)V
theorem v194_0 {sc : Option (Nat × (Nat → Int32))} {d k n : Nat} {P : am_O → Prop} {I : am_I} {J : am_J} {Pf : am_R} (hp : am_PF Pf) {x1 : Int32} {x2 : Int32} (q : (if (I 163 5) = (-1) then (P (.inl none, (am_SH, am_u (am_u I 163 5 x2) 163 6 x1, J, Pf), k, n)) else (P (.inl none, (am_SH, I, J, Pf), k, n)))) : am_go sc d 194 (0, [some (.ref 163), some (.int x1), some (.int x2)], [], (am_SH, I, J, Pf), k, n) P := by
  refine am_s_aload_n rfl dc194_0.1.1.1 ?_
  refine am_x_getI (x := I 163 5) dc194_0.1.1.2 rfl rfl (Or.inl rfl) rfl ?_
  refine am_s_iconst am_ccm1 dc194_0.1.2.1 ?_
  refine am_s_ic_eq dc194_0.1.2.2 rfl (fun c1 => ?_) (fun c1 => ?_)
  · refine am_s_aload_n rfl dc194_0.2.1.2 ?_
    refine am_s_iload_n rfl dc194_0.2.2.1 ?_
    refine am_s_putI dc194_0.2.2.2 rfl rfl rfl rfl ?_
    refine am_s_aload_n rfl dc194_1.1.1 ?_
    refine am_s_iload_n rfl dc194_1.1.2 ?_
    refine am_s_putI dc194_1.2.1 rfl rfl rfl rfl ?_
    exact am_s_return dc194_1.2.2 rfl ((vi_t q c1))
  · exact am_s_return dc194_0.2.1.1 rfl ((vi_f q c1))
-- here ()I
theorem v195_0 {sc : Option (Nat × (Nat → Int32))} {d k n : Nat} {P : am_O → Prop} {I : am_I} {J : am_J} {Pf : am_R} (hp : am_PF Pf)  (q : (if (I 163 3) ≤ (I 163 4) then (am_go sc d 195 (38, [some (.ref 163)], [], (am_SH, I, J, Pf), k, n) P) else (am_in (I 163 4) 600 = true) ∧ (if (I 165 (Int32.toNatClampNeg (I 163 4))) = 32 then (am_go sc d 195 (0, [some (.ref 163)], [], (am_SH, am_u I 163 4 ((I 163 4) + 1), J, Pf), k, n) P) else (am_go sc d 195 (38, [some (.ref 163)], [], (am_SH, I, J, Pf), k, n) P)))) : am_go sc d 195 (0, [some (.ref 163)], [], (am_SH, I, J, Pf), k, n) P := by
  refine am_s_aload_n rfl dc195_0.1.1.1 ?_
  refine am_x_getI (x := I 163 4) dc195_0.1.1.2 rfl rfl (Or.inl rfl) rfl ?_
  refine am_s_aload_n rfl dc195_0.1.2.1 ?_
  refine am_x_getI (x := I 163 3) dc195_0.1.2.2 rfl rfl (Or.inl rfl) rfl ?_
  refine am_s_ic_ge dc195_0.2.1.1 rfl (fun c1 => ?_) (fun c1 => ?_)
  · exact (vi_t q c1)
  · refine am_s_aload_n rfl dc195_0.2.1.2 ?_
    refine am_s_getR (r := 165) dc195_0.2.2.1 rfl rfl rfl (hp _ _ _ rfl) ?_
    refine am_s_aload_n rfl dc195_0.2.2.2 ?_
    refine am_x_getI (x := I 163 4) dc195_1.1.1.1 rfl rfl (Or.inl rfl) rfl ?_
    refine am_x_iaload (x := I 165 (Int32.toNatClampNeg (I 163 4))) dc195_1.1.1.2 rfl ((vi_f q c1).1) rfl rfl ?_
    refine am_s_bipush am_cb32 dc195_1.1.2.1 ?_
    refine am_s_ic_ne dc195_1.1.2.2 rfl (fun c2 => ?_) (fun c2 => ?_)
    · exact (vi_f (vi_f q c1).2 c2)
    · refine am_s_aload_n rfl dc195_1.2.1.1 ?_
      refine am_s_dup rfl dc195_1.2.1.2 ?_
      refine am_x_getI (x := I 163 4) dc195_1.2.2.1 rfl rfl (Or.inl rfl) rfl ?_
      refine am_s_iconst am_cc1 dc195_1.2.2.2 ?_
      refine am_s_iadd dc195_2.1.1.1 ?_
      refine am_s_putI dc195_2.1.1.2 rfl rfl rfl rfl ?_
      refine am_s_goto rfl dc195_2.1.2.1 ?_
      exact (vi_t (vi_f q c1).2 (Decidable.not_not.mp c2))
theorem v195_38 {sc : Option (Nat × (Nat → Int32))} {d k n : Nat} {P : am_O → Prop} {I : am_I} {J : am_J} {Pf : am_R} (hp : am_PF Pf)  (q : (if (I 163 3) ≤ (I 163 4) then (P (.inl (some (.int 0)), (am_SH, I, J, Pf), k, n)) else (am_in (I 163 4) 600 = true) ∧ (P (.inl (some (.int (I 165 (Int32.toNatClampNeg (I 163 4))))), (am_SH, I, J, Pf), k, n)))) : am_go sc d 195 (38, [some (.ref 163)], [], (am_SH, I, J, Pf), k, n) P := by
  refine am_s_aload_n rfl dc195_2.1.2.2 ?_
  refine am_x_getI (x := I 163 4) dc195_2.2.1.1 rfl rfl (Or.inl rfl) rfl ?_
  refine am_s_aload_n rfl dc195_2.2.1.2 ?_
  refine am_x_getI (x := I 163 3) dc195_2.2.2.1 rfl rfl (Or.inl rfl) rfl ?_
  refine am_s_ic_ge dc195_2.2.2.2 rfl (fun c1 => ?_) (fun c1 => ?_)
  · refine am_s_iconst am_cc0 dc195_3.2.2.1 ?_
    exact am_s_ireturn dc195_3.2.2.2 rfl ((vi_t q c1))
  · refine am_s_aload_n rfl dc195_3.1.1.1 ?_
    refine am_s_getR (r := 165) dc195_3.1.1.2 rfl rfl rfl (hp _ _ _ rfl) ?_
    refine am_s_aload_n rfl dc195_3.1.2.1 ?_
    refine am_x_getI (x := I 163 4) dc195_3.1.2.2 rfl rfl (Or.inl rfl) rfl ?_
    refine am_x_iaload (x := I 165 (Int32.toNatClampNeg (I 163 4))) dc195_3.2.1.1 rfl ((vi_f q c1).1) rfl rfl ?_
    refine am_s_goto rfl dc195_3.2.1.2 ?_
    exact am_s_ireturn dc195_3.2.2.2 rfl ((vi_f q c1).2)
-- isSmall (I)Z
theorem v196_0 {sc : Option (Nat × (Nat → Int32))} {d k n : Nat} {P : am_O → Prop} {I : am_I} {J : am_J} {Pf : am_R} (hp : am_PF Pf) {x0 : Int32} (q : (if x0 < 97 then (P (.inl (some (.int 0)), (am_SH, I, J, Pf), k, n)) else (if 122 < x0 then (P (.inl (some (.int 0)), (am_SH, I, J, Pf), k, n)) else (P (.inl (some (.int 1)), (am_SH, I, J, Pf), k, n))))) : am_go sc d 196 (0, [some (.int x0)], [], (am_SH, I, J, Pf), k, n) P := by
  refine am_s_iload_n rfl dc196_0.1.1.1 ?_
  refine am_s_bipush am_cb97 dc196_0.1.1.2 ?_
  refine am_s_ic_lt dc196_0.1.2.1 rfl (fun c1 => ?_) (fun c1 => ?_)
  · refine am_s_iconst am_cc0 dc196_1.1 ?_
    exact am_s_zreturn dc196_1.2 rfl (by decide) ((vi_t q c1))
  · refine am_s_iload_n rfl dc196_0.1.2.2 ?_
    refine am_s_bipush am_cb122 dc196_0.2.1.1 ?_
    refine am_s_ic_gt dc196_0.2.1.2 rfl (fun c2 => ?_) (fun c2 => ?_)
    · refine am_s_iconst am_cc0 dc196_1.1 ?_
      exact am_s_zreturn dc196_1.2 rfl (by decide) ((vi_t (vi_f q c1) c2))
    · refine am_s_iconst am_cc1 dc196_0.2.2.1 ?_
      refine am_s_goto rfl dc196_0.2.2.2 ?_
      exact am_s_zreturn dc196_1.2 rfl (by decide) ((vi_f (vi_f q c1) c2))
-- isDigit (I)Z
theorem v197_0 {sc : Option (Nat × (Nat → Int32))} {d k n : Nat} {P : am_O → Prop} {I : am_I} {J : am_J} {Pf : am_R} (hp : am_PF Pf) {x0 : Int32} (q : (if x0 < 48 then (P (.inl (some (.int 0)), (am_SH, I, J, Pf), k, n)) else (if 57 < x0 then (P (.inl (some (.int 0)), (am_SH, I, J, Pf), k, n)) else (P (.inl (some (.int 1)), (am_SH, I, J, Pf), k, n))))) : am_go sc d 197 (0, [some (.int x0)], [], (am_SH, I, J, Pf), k, n) P := by
  refine am_s_iload_n rfl dc197_0.1.1.1 ?_
  refine am_s_bipush am_cb48 dc197_0.1.1.2 ?_
  refine am_s_ic_lt dc197_0.1.2.1 rfl (fun c1 => ?_) (fun c1 => ?_)
  · refine am_s_iconst am_cc0 dc197_1.1 ?_
    exact am_s_zreturn dc197_1.2 rfl (by decide) ((vi_t q c1))
  · refine am_s_iload_n rfl dc197_0.1.2.2 ?_
    refine am_s_bipush am_cb57 dc197_0.2.1.1 ?_
    refine am_s_ic_gt dc197_0.2.1.2 rfl (fun c2 => ?_) (fun c2 => ?_)
    · refine am_s_iconst am_cc0 dc197_1.1 ?_
      exact am_s_zreturn dc197_1.2 rfl (by decide) ((vi_t (vi_f q c1) c2))
    · refine am_s_iconst am_cc1 dc197_0.2.2.1 ?_
      refine am_s_goto rfl dc197_0.2.2.2 ?_
      exact am_s_zreturn dc197_1.2 rfl (by decide) ((vi_f (vi_f q c1) c2))
-- word ()I
theorem v198_0 {sc : Option (Nat × (Nat → Int32))} {d k n : Nat} {P : am_O → Prop} {I : am_I} {J : am_J} {Pf : am_R} (hp : am_PF Pf) {l1 : Option Value} {l2 : Option Value} {l3 : Option Value} (q : (am_mth d 195 [.ref 163] (am_SH, I, J, Pf) (am_af sc d 198 1 [some (.ref 163), l1, l2, l3] [.ref 163] [] (am_SH, I, J, Pf) k n true P))) : am_go sc d 198 (0, [some (.ref 163), l1, l2, l3], [], (am_SH, I, J, Pf), k, n) P := by
  refine am_s_aload_n rfl dc198_0.1.1.1 ?_
  exact am_s_virtual true dc198_0.1.1.2 rfl (by decide) rfl rfl rfl (q)
theorem v198_14 {sc : Option (Nat × (Nat → Int32))} {d k n : Nat} {P : am_O → Prop} {I : am_I} {J : am_J} {Pf : am_R} (hp : am_PF Pf) {x1 : Int32} {x2 : Int32} {x3 : Int32} (q : (if (I 163 3) ≤ x3 then (if x2 ≤ 6 then (P (.inl (some (.int x1)), (am_SH, I, J, Pf), k, n)) else (P (.inl (some (.int 0)), (am_SH, I, J, Pf), k, n))) else (am_in x3 600 = true) ∧ (if (I 165 (Int32.toNatClampNeg x3)) < 97 then (if x2 ≤ 6 then (P (.inl (some (.int x1)), (am_SH, I, J, Pf), k, n)) else (P (.inl (some (.int 0)), (am_SH, I, J, Pf), k, n))) else (if 122 < (I 165 (Int32.toNatClampNeg x3)) then (if x2 ≤ 6 then (P (.inl (some (.int x1)), (am_SH, I, J, Pf), k, n)) else (P (.inl (some (.int 0)), (am_SH, I, J, Pf), k, n))) else (if 6 ≤ x2 then (am_go sc (d + 1) 198 (14, [some (.ref 163), some (.int 0), some (.int (x2 + 1)), some (.int (x3 + 1))], [], (am_SH, I, J, Pf), k, n) P) else (am_in x3 600 = true) ∧ (am_go sc (d + 1) 198 (14, [some (.ref 163), some (.int ((x1 <<< ((5 : Int32) &&& 31)) ||| ((I 165 (Int32.toNatClampNeg x3)) - 96))), some (.int (x2 + 1)), some (.int (x3 + 1))], [], (am_SH, I, J, Pf), k, n) P)))))) : am_go sc (d + 1) 198 (14, [some (.ref 163), some (.int x1), some (.int x2), some (.int x3)], [], (am_SH, I, J, Pf), k, n) P := by
  refine am_s_iload_n rfl dc198_1.1.2.1 ?_
  refine am_s_aload_n rfl dc198_1.1.2.2 ?_
  refine am_x_getI (x := I 163 3) dc198_1.2.1.1 rfl rfl (Or.inl rfl) rfl ?_
  refine am_s_ic_ge dc198_1.2.1.2 rfl (fun c1 => ?_) (fun c1 => ?_)
  · refine am_s_iload_n rfl dc198_4.2.2.2 ?_
    refine am_s_bipush am_cb6 dc198_5.1.1 ?_
    refine am_s_ic_le dc198_5.1.2.1 rfl (fun c2 => ?_) (fun c2 => ?_)
    · refine am_s_iload_n rfl dc198_5.2.2.1 ?_
      exact am_s_ireturn dc198_5.2.2.2 rfl ((vi_t (vi_t q c1) c2))
    · refine am_s_iconst am_cc0 dc198_5.1.2.2 ?_
      refine am_s_goto rfl dc198_5.2.1 ?_
      exact am_s_ireturn dc198_5.2.2.2 rfl ((vi_f (vi_t q c1) c2))
  · refine am_s_aload_n rfl dc198_1.2.2.1 ?_
    refine am_s_getR (r := 165) dc198_1.2.2.2 rfl rfl rfl (hp _ _ _ rfl) ?_
    refine am_s_iload_n rfl dc198_2.1.1.1 ?_
    refine am_x_iaload (x := I 165 (Int32.toNatClampNeg x3)) dc198_2.1.1.2 rfl ((vi_f q c1).1) rfl rfl ?_
    refine am_s_static dc198_2.1.2.1 rfl rfl rfl (am_mth_of rfl rfl ?_)
    refine am_s_iload_n rfl dc196_0.1.1.1 ?_
    refine am_s_bipush am_cb97 dc196_0.1.1.2 ?_
    refine am_s_ic_lt dc196_0.1.2.1 rfl (fun c2 => ?_) (fun c2 => ?_)
    · refine am_s_iconst am_cc0 dc196_1.1 ?_
      refine am_s_zreturn dc196_1.2 rfl (by decide) (am_bkI ?_)
      refine am_s_if_eq dc198_2.1.2.2 rfl (fun _ => ?_) (fun z => absurd z (by decide))
      refine am_s_iload_n rfl dc198_4.2.2.2 ?_
      refine am_s_bipush am_cb6 dc198_5.1.1 ?_
      refine am_s_ic_le dc198_5.1.2.1 rfl (fun c3 => ?_) (fun c3 => ?_)
      · refine am_s_iload_n rfl dc198_5.2.2.1 ?_
        exact am_s_ireturn dc198_5.2.2.2 rfl ((vi_t (vi_t (vi_f q c1).2 c2) c3))
      · refine am_s_iconst am_cc0 dc198_5.1.2.2 ?_
        refine am_s_goto rfl dc198_5.2.1 ?_
        exact am_s_ireturn dc198_5.2.2.2 rfl ((vi_f (vi_t (vi_f q c1).2 c2) c3))
    · refine am_s_iload_n rfl dc196_0.1.2.2 ?_
      refine am_s_bipush am_cb122 dc196_0.2.1.1 ?_
      refine am_s_ic_gt dc196_0.2.1.2 rfl (fun c3 => ?_) (fun c3 => ?_)
      · refine am_s_iconst am_cc0 dc196_1.1 ?_
        refine am_s_zreturn dc196_1.2 rfl (by decide) (am_bkI ?_)
        refine am_s_if_eq dc198_2.1.2.2 rfl (fun _ => ?_) (fun z => absurd z (by decide))
        refine am_s_iload_n rfl dc198_4.2.2.2 ?_
        refine am_s_bipush am_cb6 dc198_5.1.1 ?_
        refine am_s_ic_le dc198_5.1.2.1 rfl (fun c4 => ?_) (fun c4 => ?_)
        · refine am_s_iload_n rfl dc198_5.2.2.1 ?_
          exact am_s_ireturn dc198_5.2.2.2 rfl ((vi_t (vi_t (vi_f (vi_f q c1).2 c2) c3) c4))
        · refine am_s_iconst am_cc0 dc198_5.1.2.2 ?_
          refine am_s_goto rfl dc198_5.2.1 ?_
          exact am_s_ireturn dc198_5.2.2.2 rfl ((vi_f (vi_t (vi_f (vi_f q c1).2 c2) c3) c4))
      · refine am_s_iconst am_cc1 dc196_0.2.2.1 ?_
        refine am_s_goto rfl dc196_0.2.2.2 ?_
        refine am_s_zreturn dc196_1.2 rfl (by decide) (am_bkI ?_)
        refine am_s_if_eq dc198_2.1.2.2 rfl (fun z => absurd z (by decide)) (fun _ => ?_)
        refine am_s_iload_n rfl dc198_2.2.1.1 ?_
        refine am_s_bipush am_cb6 dc198_2.2.1.2 ?_
        refine am_s_ic_ge dc198_2.2.2.1 rfl (fun c4 => ?_) (fun c4 => ?_)
        · refine am_s_iconst am_cc0 dc198_4.1.2.1 ?_
          refine am_s_istore_n (ls' := [some (.ref 163), some (.int 0), some (.int x2), some (.int x3)]) rfl rfl dc198_4.1.2.2 ?_
          refine am_s_iinc (ls' := [some (.ref 163), some (.int 0), some (.int (x2 + 1)), some (.int x3)]) am_cc1 rfl rfl dc198_4.2.1.1 ?_
          refine am_s_iinc (ls' := [some (.ref 163), some (.int 0), some (.int (x2 + 1)), some (.int (x3 + 1))]) am_cc1 rfl rfl dc198_4.2.1.2 ?_
          refine am_s_goto rfl dc198_4.2.2.1 ?_
          exact (vi_t (vi_f (vi_f (vi_f q c1).2 c2) c3) c4)
        · refine am_s_iload_n rfl dc198_2.2.2.2 ?_
          refine am_s_iconst am_cc5 dc198_3.1.1.1 ?_
          refine am_s_ishl dc198_3.1.1.2 ?_
          refine am_s_aload_n rfl dc198_3.1.2.1 ?_
          refine am_s_getR (r := 165) dc198_3.1.2.2 rfl rfl rfl (hp _ _ _ rfl) ?_
          refine am_s_iload_n rfl dc198_3.2.1.1 ?_
          refine am_x_iaload (x := I 165 (Int32.toNatClampNeg x3)) dc198_3.2.1.2 rfl ((vi_f (vi_f (vi_f (vi_f q c1).2 c2) c3) c4).1) rfl rfl ?_
          refine am_s_bipush am_cb96 dc198_3.2.2.1 ?_
          refine am_s_isub dc198_3.2.2.2 ?_
          refine am_s_ior dc198_4.1.1.1 ?_
          refine am_s_goto rfl dc198_4.1.1.2 ?_
          refine am_s_istore_n (ls' := [some (.ref 163), some (.int ((x1 <<< ((5 : Int32) &&& 31)) ||| ((I 165 (Int32.toNatClampNeg x3)) - 96))), some (.int x2), some (.int x3)]) rfl rfl dc198_4.1.2.2 ?_
          refine am_s_iinc (ls' := [some (.ref 163), some (.int ((x1 <<< ((5 : Int32) &&& 31)) ||| ((I 165 (Int32.toNatClampNeg x3)) - 96))), some (.int (x2 + 1)), some (.int x3)]) am_cc1 rfl rfl dc198_4.2.1.1 ?_
          refine am_s_iinc (ls' := [some (.ref 163), some (.int ((x1 <<< ((5 : Int32) &&& 31)) ||| ((I 165 (Int32.toNatClampNeg x3)) - 96))), some (.int (x2 + 1)), some (.int (x3 + 1))]) am_cc1 rfl rfl dc198_4.2.1.2 ?_
          refine am_s_goto rfl dc198_4.2.2.1 ?_
          exact (vi_f (vi_f (vi_f (vi_f q c1).2 c2) c3) c4).2
theorem v198_4 {sc : Option (Nat × (Nat → Int32))} {d k n : Nat} {P : am_O → Prop} {I : am_I} {J : am_J} {Pf : am_R} (hp : am_PF Pf) {l1 : Option Value} {l2 : Option Value} {l3 : Option Value} {s0 : Int32} (q : (am_go sc d 198 (14, [some (.ref 163), some (.int 0), some (.int 0), some (.int (I 163 4))], [], (am_SH, I, J, Pf), k, n) P)) : am_go sc d 198 (4, [some (.ref 163), l1, l2, l3], [.int s0], (am_SH, I, J, Pf), k, n) P := by
  refine am_s_pop rfl dc198_0.1.2.1 ?_
  refine am_s_iconst am_cc0 dc198_0.1.2.2 ?_
  refine am_s_istore_n (ls' := [some (.ref 163), some (.int 0), l2, l3]) rfl rfl dc198_0.2.1.1 ?_
  refine am_s_iconst am_cc0 dc198_0.2.1.2 ?_
  refine am_s_istore_n (ls' := [some (.ref 163), some (.int 0), some (.int 0), l3]) rfl rfl dc198_0.2.2.1 ?_
  refine am_s_aload_n rfl dc198_0.2.2.2 ?_
  refine am_x_getI (x := I 163 4) dc198_1.1.1.1 rfl rfl (Or.inl rfl) rfl ?_
  refine am_s_istore_n (ls' := [some (.ref 163), some (.int 0), some (.int 0), some (.int (I 163 4))]) rfl rfl dc198_1.1.1.2 ?_
  exact q
-- of (Ljava/lang/String;)I
theorem v199_0 {sc : Option (Nat × (Nat → Int32))} {d k n : Nat} {P : am_O → Prop} {I : am_I} {J : am_J} {Pf : am_R} (hp : am_PF Pf) {x0 : Nat} (hx0 : am_strq x0 = true) {l1 : Option Value} {l2 : Option Value} (q : (am_go sc d 199 (4, [some (.retAddr x0), some (.int 0), some (.int 0)], [], (am_SH, I, J, Pf), k, n) P)) : am_go sc d 199 (0, [some (.retAddr x0), l1, l2], [], (am_SH, I, J, Pf), k, n) P := by
  refine am_s_iconst am_cc0 dc199_0.1.1.1 ?_
  refine am_s_istore_n (ls' := [some (.retAddr x0), some (.int 0), l2]) rfl rfl dc199_0.1.1.2 ?_
  refine am_s_iconst am_cc0 dc199_0.1.2.1 ?_
  refine am_s_istore_n (ls' := [some (.retAddr x0), some (.int 0), some (.int 0)]) rfl rfl dc199_0.1.2.2 ?_
  exact q
theorem v199_4 {sc : Option (Nat × (Nat → Int32))} {d k n : Nat} {P : am_O → Prop} {I : am_I} {J : am_J} {Pf : am_R} (hp : am_PF Pf) {x0 : Nat} (hx0 : am_strq x0 = true) {x1 : Int32} {x2 : Int32} (q : (am_mth d 331 [.retAddr x0] (am_SH, I, J, Pf) (am_af sc d 199 6 [some (.retAddr x0), some (.int x1), some (.int x2)] [.retAddr x0, .int x2] [.int x2] (am_SH, I, J, Pf) k n false P))) : am_go sc d 199 (4, [some (.retAddr x0), some (.int x1), some (.int x2)], [], (am_SH, I, J, Pf), k, n) P := by
  refine am_s_iload_n rfl dc199_0.2.1.1 ?_
  refine am_s_aload_nT rfl dc199_0.2.1.2 ?_
  exact am_s_virtualT dc199_0.2.2.1 rfl rfl rfl (am_vT hx0 rfl rfl) (q)
theorem v199_9 {sc : Option (Nat × (Nat → Int32))} {d k n : Nat} {P : am_O → Prop} {I : am_I} {J : am_J} {Pf : am_R} (hp : am_PF Pf) {x0 : Nat} (hx0 : am_strq x0 = true) {x1 : Int32} {x2 : Int32} {s0 : Int32} {s1 : Int32} (q : (if s1 ≤ s0 then (P (.inl (some (.int x1)), (am_SH, I, J, Pf), k, n)) else (am_mth d 332 [.retAddr x0, .int x2] (am_SH, I, J, Pf) (am_af sc d 199 17 [some (.retAddr x0), some (.int x1), some (.int x2)] [.int x2, .retAddr x0, .int (x1 <<< ((5 : Int32) &&& 31))] [.int (x1 <<< ((5 : Int32) &&& 31))] (am_SH, I, J, Pf) k n false P)))) : am_go sc d 199 (9, [some (.retAddr x0), some (.int x1), some (.int x2)], [.int s1, .int s0], (am_SH, I, J, Pf), k, n) P := by
  refine am_s_ic_ge dc199_0.2.2.2 rfl (fun c1 => ?_) (fun c1 => ?_)
  · refine am_s_iload_n rfl dc199_2.2.2.1 ?_
    exact am_s_ireturn dc199_2.2.2.2 rfl ((vi_t q c1))
  · refine am_s_iload_n rfl dc199_1.1.1.1 ?_
    refine am_s_iconst am_cc5 dc199_1.1.1.2 ?_
    refine am_s_ishl dc199_1.1.2.1 ?_
    refine am_s_aload_nT rfl dc199_1.1.2.2 ?_
    refine am_s_iload_n rfl dc199_1.2.1.1 ?_
    exact am_s_virtualT dc199_1.2.1.2 rfl rfl rfl (am_vT hx0 rfl rfl) ((vi_f q c1))
theorem v199_20 {sc : Option (Nat × (Nat → Int32))} {d k n : Nat} {P : am_O → Prop} {I : am_I} {J : am_J} {Pf : am_R} (hp : am_PF Pf) {x0 : Nat} (hx0 : am_strq x0 = true) {l1 : Option Value} {x2 : Int32} {s0 : Int32} {s1 : Int32} (q : (am_go sc d 199 (4, [some (.retAddr x0), some (.int (s0 ||| (s1 - 96))), some (.int (x2 + 1))], [], (am_SH, I, J, Pf), k, n) P)) : am_go sc d 199 (20, [some (.retAddr x0), l1, some (.int x2)], [.int s1, .int s0], (am_SH, I, J, Pf), k, n) P := by
  refine am_s_bipush am_cb96 dc199_1.2.2.1 ?_
  refine am_s_isub dc199_1.2.2.2 ?_
  refine am_s_ior dc199_2.1.1 ?_
  refine am_s_istore_n (ls' := [some (.retAddr x0), some (.int (s0 ||| (s1 - 96))), some (.int x2)]) rfl rfl dc199_2.1.2.1 ?_
  refine am_s_iinc (ls' := [some (.retAddr x0), some (.int (s0 ||| (s1 - 96))), some (.int (x2 + 1))]) am_cc1 rfl rfl dc199_2.1.2.2 ?_
  refine am_s_goto rfl dc199_2.2.1 ?_
  exact q
-- pass ()V
theorem v200_0 {sc : Option (Nat × (Nat → Int32))} {d k n : Nat} {P : am_O → Prop} {I : am_I} {J : am_J} {Pf : am_R} (hp : am_PF Pf)  (q : (if (I 163 3) ≤ (I 163 4) then (P (.inl none, (am_SH, I, J, Pf), k, n)) else (am_in (I 163 4) 600 = true) ∧ (if (I 165 (Int32.toNatClampNeg (I 163 4))) < 97 then (P (.inl none, (am_SH, I, J, Pf), k, n)) else (if 122 < (I 165 (Int32.toNatClampNeg (I 163 4))) then (P (.inl none, (am_SH, I, J, Pf), k, n)) else (am_go sc (d + 1) 200 (0, [some (.ref 163)], [], (am_SH, am_u I 163 4 ((I 163 4) + 1), J, Pf), k, n) P))))) : am_go sc (d + 1) 200 (0, [some (.ref 163)], [], (am_SH, I, J, Pf), k, n) P := by
  refine am_s_aload_n rfl dc200_0.1.1.1 ?_
  refine am_x_getI (x := I 163 4) dc200_0.1.1.2 rfl rfl (Or.inl rfl) rfl ?_
  refine am_s_aload_n rfl dc200_0.1.2.1 ?_
  refine am_x_getI (x := I 163 3) dc200_0.1.2.2 rfl rfl (Or.inl rfl) rfl ?_
  refine am_s_ic_ge dc200_0.2.1.1 rfl (fun c1 => ?_) (fun c1 => ?_)
  · exact am_s_return dc200_2.2.2 rfl ((vi_t q c1))
  · refine am_s_aload_n rfl dc200_0.2.1.2 ?_
    refine am_s_getR (r := 165) dc200_0.2.2.1 rfl rfl rfl (hp _ _ _ rfl) ?_
    refine am_s_aload_n rfl dc200_0.2.2.2 ?_
    refine am_x_getI (x := I 163 4) dc200_1.1.1.1 rfl rfl (Or.inl rfl) rfl ?_
    refine am_x_iaload (x := I 165 (Int32.toNatClampNeg (I 163 4))) dc200_1.1.1.2 rfl ((vi_f q c1).1) rfl rfl ?_
    refine am_s_static dc200_1.1.2.1 rfl rfl rfl (am_mth_of rfl rfl ?_)
    refine am_s_iload_n rfl dc196_0.1.1.1 ?_
    refine am_s_bipush am_cb97 dc196_0.1.1.2 ?_
    refine am_s_ic_lt dc196_0.1.2.1 rfl (fun c2 => ?_) (fun c2 => ?_)
    · refine am_s_iconst am_cc0 dc196_1.1 ?_
      refine am_s_zreturn dc196_1.2 rfl (by decide) (am_bkI ?_)
      refine am_s_if_eq dc200_1.1.2.2 rfl (fun _ => ?_) (fun z => absurd z (by decide))
      exact am_s_return dc200_2.2.2 rfl ((vi_t (vi_f q c1).2 c2))
    · refine am_s_iload_n rfl dc196_0.1.2.2 ?_
      refine am_s_bipush am_cb122 dc196_0.2.1.1 ?_
      refine am_s_ic_gt dc196_0.2.1.2 rfl (fun c3 => ?_) (fun c3 => ?_)
      · refine am_s_iconst am_cc0 dc196_1.1 ?_
        refine am_s_zreturn dc196_1.2 rfl (by decide) (am_bkI ?_)
        refine am_s_if_eq dc200_1.1.2.2 rfl (fun _ => ?_) (fun z => absurd z (by decide))
        exact am_s_return dc200_2.2.2 rfl ((vi_t (vi_f (vi_f q c1).2 c2) c3))
      · refine am_s_iconst am_cc1 dc196_0.2.2.1 ?_
        refine am_s_goto rfl dc196_0.2.2.2 ?_
        refine am_s_zreturn dc196_1.2 rfl (by decide) (am_bkI ?_)
        refine am_s_if_eq dc200_1.1.2.2 rfl (fun z => absurd z (by decide)) (fun _ => ?_)
        refine am_s_aload_n rfl dc200_1.2.1.1 ?_
        refine am_s_dup rfl dc200_1.2.1.2 ?_
        refine am_x_getI (x := I 163 4) dc200_1.2.2.1 rfl rfl (Or.inl rfl) rfl ?_
        refine am_s_iconst am_cc1 dc200_1.2.2.2 ?_
        refine am_s_iadd dc200_2.1.1 ?_
        refine am_s_putI dc200_2.1.2 rfl rfl rfl rfl ?_
        refine am_s_goto rfl dc200_2.2.1 ?_
        exact (vi_f (vi_f (vi_f q c1).2 c2) c3)
-- readNumber (II)I
theorem v201_0 {sc : Option (Nat × (Nat → Int32))} {d k n : Nat} {P : am_O → Prop} {I : am_I} {J : am_J} {Pf : am_R} (hp : am_PF Pf) {x1 : Int32} {x2 : Int32} {l3 : Option Value} {l4 : Option Value} {l5 : Option Value} (q : (if (I 163 5) = (-1) then (am_mth (d + 1) 195 [.ref 163] (am_SH, I, J, Pf) (am_af sc (d + 1) 201 10 [some (.ref 163), some (.int x1), some (.int x2), l3, l4, l5] [.ref 163] [] (am_SH, I, J, Pf) k n true P)) else (P (.inl (some (.int 0)), (am_SH, I, J, Pf), k, n)))) : am_go sc (d + 1) 201 (0, [some (.ref 163), some (.int x1), some (.int x2), l3, l4, l5], [], (am_SH, I, J, Pf), k, n) P := by
  refine am_s_aload_n rfl dc201_0.1.1.1 ?_
  refine am_s_virtual true dc201_0.1.1.2 rfl (by decide) rfl rfl rfl (am_mth_of rfl rfl ?_)
  refine am_s_aload_n rfl dc193_0.1.1.1 ?_
  refine am_x_getI (x := I 163 5) dc193_0.1.1.2 rfl rfl (Or.inl rfl) rfl ?_
  refine am_s_iconst am_ccm1 dc193_0.1.2.1 ?_
  refine am_s_ic_ne dc193_0.1.2.2 rfl (fun c1 => ?_) (fun c1 => ?_)
  · refine am_s_iconst am_cc0 dc193_0.2.2.1 ?_
    refine am_s_zreturn dc193_0.2.2.2 rfl (by decide) (am_bkI ?_)
    refine am_s_if_ne dc201_0.1.2.1 rfl (fun z => absurd z (by decide)) (fun _ => ?_)
    refine am_s_iconst am_cc0 dc201_0.1.2.2 ?_
    exact am_s_ireturn dc201_0.2.1.1 rfl ((vi_f q c1))
  · refine am_s_iconst am_cc1 dc193_0.2.1.1 ?_
    refine am_s_goto rfl dc193_0.2.1.2 ?_
    refine am_s_zreturn dc193_0.2.2.2 rfl (by decide) (am_bkI ?_)
    refine am_s_if_ne dc201_0.1.2.1 rfl (fun _ => ?_) (fun z => absurd z (by decide))
    refine am_s_aload_n rfl dc201_0.2.1.2 ?_
    exact am_s_virtual true dc201_0.2.2.1 rfl (by decide) rfl rfl rfl ((vi_t q (Decidable.not_not.mp c1)))
theorem v201_41 {sc : Option (Nat × (Nat → Int32))} {d k n : Nat} {P : am_O → Prop} {I : am_I} {J : am_J} {Pf : am_R} (hp : am_PF Pf) {x1 : Int32} {x2 : Int32} {l3 : Option Value} {x4 : Int32} {x5 : Int32} (q : (if (I 163 3) ≤ (I 163 4) then (am_go sc (d + 1) 201 (114, [some (.ref 163), some (.int x1), some (.int x2), l3, some (.int x4), some (.int x5)], [], (am_SH, I, J, Pf), k, n) P) else (am_in (I 163 4) 600 = true) ∧ (if (I 165 (Int32.toNatClampNeg (I 163 4))) < 48 then (am_go sc (d + 1) 201 (114, [some (.ref 163), some (.int x1), some (.int x2), l3, some (.int x4), some (.int x5)], [], (am_SH, I, J, Pf), k, n) P) else (if 57 < (I 165 (Int32.toNatClampNeg (I 163 4))) then (am_go sc (d + 1) 201 (114, [some (.ref 163), some (.int x1), some (.int x2), l3, some (.int x4), some (.int x5)], [], (am_SH, I, J, Pf), k, n) P) else (if x5 ≤ 9999 then (am_in (I 163 4) 600 = true) ∧ (am_go sc (d + 1) 201 (41, [some (.ref 163), some (.int x1), some (.int x2), l3, some (.int x4), some (.int (((10 * x5) + (I 165 (Int32.toNatClampNeg (I 163 4)))) - 48))], [], (am_SH, am_u I 163 4 ((I 163 4) + 1), J, Pf), k, n) P) else (am_go sc (d + 1) 201 (41, [some (.ref 163), some (.int x1), some (.int x2), l3, some (.int x4), some (.int 10000)], [], (am_SH, am_u I 163 4 ((I 163 4) + 1), J, Pf), k, n) P)))))) : am_go sc (d + 1) 201 (41, [some (.ref 163), some (.int x1), some (.int x2), l3, some (.int x4), some (.int x5)], [], (am_SH, I, J, Pf), k, n) P := by
  refine am_s_aload_n rfl dc201_2.2.2.2 ?_
  refine am_x_getI (x := I 163 4) dc201_3.1.1.1 rfl rfl (Or.inl rfl) rfl ?_
  refine am_s_aload_n rfl dc201_3.1.1.2 ?_
  refine am_x_getI (x := I 163 3) dc201_3.1.2.1 rfl rfl (Or.inl rfl) rfl ?_
  refine am_s_ic_ge dc201_3.1.2.2 rfl (fun c1 => ?_) (fun c1 => ?_)
  · exact (vi_t q c1)
  · refine am_s_aload_n rfl dc201_3.2.1.1 ?_
    refine am_s_getR (r := 165) dc201_3.2.1.2 rfl rfl rfl (hp _ _ _ rfl) ?_
    refine am_s_aload_n rfl dc201_3.2.2.1 ?_
    refine am_x_getI (x := I 163 4) dc201_3.2.2.2 rfl rfl (Or.inl rfl) rfl ?_
    refine am_x_iaload (x := I 165 (Int32.toNatClampNeg (I 163 4))) dc201_4.1.1.1 rfl ((vi_f q c1).1) rfl rfl ?_
    refine am_s_static dc201_4.1.1.2 rfl rfl rfl (am_mth_of rfl rfl ?_)
    refine am_s_iload_n rfl dc197_0.1.1.1 ?_
    refine am_s_bipush am_cb48 dc197_0.1.1.2 ?_
    refine am_s_ic_lt dc197_0.1.2.1 rfl (fun c2 => ?_) (fun c2 => ?_)
    · refine am_s_iconst am_cc0 dc197_1.1 ?_
      refine am_s_zreturn dc197_1.2 rfl (by decide) (am_bkI ?_)
      refine am_s_if_eq dc201_4.1.2.1 rfl (fun _ => ?_) (fun z => absurd z (by decide))
      exact (vi_t (vi_f q c1).2 c2)
    · refine am_s_iload_n rfl dc197_0.1.2.2 ?_
      refine am_s_bipush am_cb57 dc197_0.2.1.1 ?_
      refine am_s_ic_gt dc197_0.2.1.2 rfl (fun c3 => ?_) (fun c3 => ?_)
      · refine am_s_iconst am_cc0 dc197_1.1 ?_
        refine am_s_zreturn dc197_1.2 rfl (by decide) (am_bkI ?_)
        refine am_s_if_eq dc201_4.1.2.1 rfl (fun _ => ?_) (fun z => absurd z (by decide))
        exact (vi_t (vi_f (vi_f q c1).2 c2) c3)
      · refine am_s_iconst am_cc1 dc197_0.2.2.1 ?_
        refine am_s_goto rfl dc197_0.2.2.2 ?_
        refine am_s_zreturn dc197_1.2 rfl (by decide) (am_bkI ?_)
        refine am_s_if_eq dc201_4.1.2.1 rfl (fun z => absurd z (by decide)) (fun _ => ?_)
        refine am_s_iload rfl dc201_4.1.2.2 ?_
        refine am_s_sipush am_cs9999 dc201_4.2.1.1 ?_
        refine am_s_ic_le dc201_4.2.1.2 rfl (fun c4 => ?_) (fun c4 => ?_)
        · refine am_s_bipush am_cb10 dc201_5.1.1.1 ?_
          refine am_s_iload rfl dc201_5.1.1.2 ?_
          refine am_s_imul dc201_5.1.2.1 ?_
          refine am_s_aload_n rfl dc201_5.1.2.2 ?_
          refine am_s_getR (r := 165) dc201_5.2.1.1 rfl rfl rfl (hp _ _ _ rfl) ?_
          refine am_s_aload_n rfl dc201_5.2.1.2 ?_
          refine am_x_getI (x := I 163 4) dc201_5.2.2.1 rfl rfl (Or.inl rfl) rfl ?_
          refine am_x_iaload (x := I 165 (Int32.toNatClampNeg (I 163 4))) dc201_5.2.2.2 rfl ((vi_t (vi_f (vi_f (vi_f q c1).2 c2) c3) c4).1) rfl rfl ?_
          refine am_s_iadd dc201_6.1.1.1 ?_
          refine am_s_bipush am_cb48 dc201_6.1.1.2 ?_
          refine am_s_isub dc201_6.1.2.1 ?_
          refine am_s_istore (ls' := [some (.ref 163), some (.int x1), some (.int x2), l3, some (.int x4), some (.int (((10 * x5) + (I 165 (Int32.toNatClampNeg (I 163 4)))) - 48))]) rfl rfl dc201_6.1.2.2 ?_
          refine am_s_aload_n rfl dc201_6.2.1.1 ?_
          refine am_s_dup rfl dc201_6.2.1.2 ?_
          refine am_x_getI (x := I 163 4) dc201_6.2.2.1 rfl rfl (Or.inl rfl) rfl ?_
          refine am_s_iconst am_cc1 dc201_6.2.2.2 ?_
          refine am_s_iadd dc201_7.1.1.1 ?_
          refine am_s_putI dc201_7.1.1.2 rfl rfl rfl rfl ?_
          refine am_s_goto rfl dc201_7.1.2.1 ?_
          exact (vi_t (vi_f (vi_f (vi_f q c1).2 c2) c3) c4).2
        · refine am_s_sipush am_cs10000 dc201_4.2.2.1 ?_
          refine am_s_goto rfl dc201_4.2.2.2 ?_
          refine am_s_istore (ls' := [some (.ref 163), some (.int x1), some (.int x2), l3, some (.int x4), some (.int 10000)]) rfl rfl dc201_6.1.2.2 ?_
          refine am_s_aload_n rfl dc201_6.2.1.1 ?_
          refine am_s_dup rfl dc201_6.2.1.2 ?_
          refine am_x_getI (x := I 163 4) dc201_6.2.2.1 rfl rfl (Or.inl rfl) rfl ?_
          refine am_s_iconst am_cc1 dc201_6.2.2.2 ?_
          refine am_s_iadd dc201_7.1.1.1 ?_
          refine am_s_putI dc201_7.1.1.2 rfl rfl rfl rfl ?_
          refine am_s_goto rfl dc201_7.1.2.1 ?_
          exact (vi_f (vi_f (vi_f (vi_f q c1).2 c2) c3) c4)
theorem v201_114 {sc : Option (Nat × (Nat → Int32))} {d k n : Nat} {P : am_O → Prop} {I : am_I} {J : am_J} {Pf : am_R} (hp : am_PF Pf) {x1 : Int32} {x2 : Int32} {l3 : Option Value} {x4 : Int32} {x5 : Int32} (q : (if x5 < x1 then (if (I 163 5) = (-1) then (P (.inl (some (.int 0)), (am_SH, am_u (am_u I 163 5 x4) 163 6 2, J, Pf), k, n)) else (P (.inl (some (.int 0)), (am_SH, I, J, Pf), k, n))) else (if x5 ≤ x2 then (P (.inl (some (.int x5)), (am_SH, I, J, Pf), k, n)) else (if (I 163 5) = (-1) then (P (.inl (some (.int 0)), (am_SH, am_u (am_u I 163 5 x4) 163 6 2, J, Pf), k, n)) else (P (.inl (some (.int 0)), (am_SH, I, J, Pf), k, n)))))) : am_go sc (d + 1) 201 (114, [some (.ref 163), some (.int x1), some (.int x2), l3, some (.int x4), some (.int x5)], [], (am_SH, I, J, Pf), k, n) P := by
  refine am_s_iload rfl dc201_7.1.2.2 ?_
  refine am_s_iload_n rfl dc201_7.2.1.1 ?_
  refine am_s_ic_lt dc201_7.2.1.2 rfl (fun c1 => ?_) (fun c1 => ?_)
  · refine am_s_aload_n rfl dc201_8.1.1.2 ?_
    refine am_s_iconst am_cc2 dc201_8.1.2.1 ?_
    refine am_s_iload rfl dc201_8.1.2.2 ?_
    refine am_s_virtual true dc201_8.2.1.1 rfl (by decide) rfl rfl rfl (am_mth_of rfl rfl ?_)
    refine am_s_aload_n rfl dc194_0.1.1.1 ?_
    refine am_x_getI (x := I 163 5) dc194_0.1.1.2 rfl rfl (Or.inl rfl) rfl ?_
    refine am_s_iconst am_ccm1 dc194_0.1.2.1 ?_
    refine am_s_ic_eq dc194_0.1.2.2 rfl (fun c2 => ?_) (fun c2 => ?_)
    · refine am_s_aload_n rfl dc194_0.2.1.2 ?_
      refine am_s_iload_n rfl dc194_0.2.2.1 ?_
      refine am_s_putI dc194_0.2.2.2 rfl rfl rfl rfl ?_
      refine am_s_aload_n rfl dc194_1.1.1 ?_
      refine am_s_iload_n rfl dc194_1.1.2 ?_
      refine am_s_putI dc194_1.2.1 rfl rfl rfl rfl ?_
      refine am_s_return dc194_1.2.2 rfl (am_bkV ?_)
      refine am_s_iconst am_cc0 dc201_8.2.1.2 ?_
      exact am_s_ireturn dc201_8.2.2.1 rfl ((vi_t (vi_t q c1) c2))
    · refine am_s_return dc194_0.2.1.1 rfl (am_bkV ?_)
      refine am_s_iconst am_cc0 dc201_8.2.1.2 ?_
      exact am_s_ireturn dc201_8.2.2.1 rfl ((vi_f (vi_t q c1) c2))
  · refine am_s_iload rfl dc201_7.2.2.1 ?_
    refine am_s_iload_n rfl dc201_7.2.2.2 ?_
    refine am_s_ic_le dc201_8.1.1.1 rfl (fun c2 => ?_) (fun c2 => ?_)
    · refine am_s_iload rfl dc201_8.2.2.2 ?_
      exact am_s_ireturn dc201_9 rfl ((vi_t (vi_f q c1) c2))
    · refine am_s_aload_n rfl dc201_8.1.1.2 ?_
      refine am_s_iconst am_cc2 dc201_8.1.2.1 ?_
      refine am_s_iload rfl dc201_8.1.2.2 ?_
      refine am_s_virtual true dc201_8.2.1.1 rfl (by decide) rfl rfl rfl (am_mth_of rfl rfl ?_)
      refine am_s_aload_n rfl dc194_0.1.1.1 ?_
      refine am_x_getI (x := I 163 5) dc194_0.1.1.2 rfl rfl (Or.inl rfl) rfl ?_
      refine am_s_iconst am_ccm1 dc194_0.1.2.1 ?_
      refine am_s_ic_eq dc194_0.1.2.2 rfl (fun c3 => ?_) (fun c3 => ?_)
      · refine am_s_aload_n rfl dc194_0.2.1.2 ?_
        refine am_s_iload_n rfl dc194_0.2.2.1 ?_
        refine am_s_putI dc194_0.2.2.2 rfl rfl rfl rfl ?_
        refine am_s_aload_n rfl dc194_1.1.1 ?_
        refine am_s_iload_n rfl dc194_1.1.2 ?_
        refine am_s_putI dc194_1.2.1 rfl rfl rfl rfl ?_
        refine am_s_return dc194_1.2.2 rfl (am_bkV ?_)
        refine am_s_iconst am_cc0 dc201_8.2.1.2 ?_
        exact am_s_ireturn dc201_8.2.2.1 rfl ((vi_t (vi_f (vi_f q c1) c2) c3))
      · refine am_s_return dc194_0.2.1.1 rfl (am_bkV ?_)
        refine am_s_iconst am_cc0 dc201_8.2.1.2 ?_
        exact am_s_ireturn dc201_8.2.2.1 rfl ((vi_f (vi_f (vi_f q c1) c2) c3))
theorem v201_13 {sc : Option (Nat × (Nat → Int32))} {d k n : Nat} {P : am_O → Prop} {I : am_I} {J : am_J} {Pf : am_R} (hp : am_PF Pf) {x1 : Int32} {x2 : Int32} {l3 : Option Value} {l4 : Option Value} {l5 : Option Value} {s0 : Int32} (q : (if s0 < 48 then (if (I 163 5) = (-1) then (P (.inl (some (.int 0)), (am_SH, am_u (am_u I 163 5 (I 163 4)) 163 6 1, J, Pf), k, n)) else (P (.inl (some (.int 0)), (am_SH, I, J, Pf), k, n))) else (if 57 < s0 then (if (I 163 5) = (-1) then (P (.inl (some (.int 0)), (am_SH, am_u (am_u I 163 5 (I 163 4)) 163 6 1, J, Pf), k, n)) else (P (.inl (some (.int 0)), (am_SH, I, J, Pf), k, n))) else (am_go sc (d + 1) 201 (41, [some (.ref 163), some (.int x1), some (.int x2), some (.int s0), some (.int (I 163 4)), some (.int 0)], [], (am_SH, I, J, Pf), k, n) P)))) : am_go sc (d + 1) 201 (13, [some (.ref 163), some (.int x1), some (.int x2), l3, l4, l5], [.int s0], (am_SH, I, J, Pf), k, n) P := by
  refine am_s_istore_n (ls' := [some (.ref 163), some (.int x1), some (.int x2), some (.int s0), l4, l5]) rfl rfl dc201_0.2.2.2 ?_
  refine am_s_aload_n rfl dc201_1.1.1.1 ?_
  refine am_x_getI (x := I 163 4) dc201_1.1.1.2 rfl rfl (Or.inl rfl) rfl ?_
  refine am_s_istore (ls' := [some (.ref 163), some (.int x1), some (.int x2), some (.int s0), some (.int (I 163 4)), l5]) rfl rfl dc201_1.1.2.1 ?_
  refine am_s_iconst am_cc0 dc201_1.1.2.2 ?_
  refine am_s_istore (ls' := [some (.ref 163), some (.int x1), some (.int x2), some (.int s0), some (.int (I 163 4)), some (.int 0)]) rfl rfl dc201_1.2.1.1 ?_
  refine am_s_iload_n rfl dc201_1.2.1.2 ?_
  refine am_s_static dc201_1.2.2.1 rfl rfl rfl (am_mth_of rfl rfl ?_)
  refine am_s_iload_n rfl dc197_0.1.1.1 ?_
  refine am_s_bipush am_cb48 dc197_0.1.1.2 ?_
  refine am_s_ic_lt dc197_0.1.2.1 rfl (fun c1 => ?_) (fun c1 => ?_)
  · refine am_s_iconst am_cc0 dc197_1.1 ?_
    refine am_s_zreturn dc197_1.2 rfl (by decide) (am_bkI ?_)
    refine am_s_if_ne dc201_1.2.2.2 rfl (fun z => absurd z (by decide)) (fun _ => ?_)
    refine am_s_aload_n rfl dc201_2.1.1.1 ?_
    refine am_s_iconst am_cc1 dc201_2.1.1.2 ?_
    refine am_s_aload_n rfl dc201_2.1.2.1 ?_
    refine am_x_getI (x := I 163 4) dc201_2.1.2.2 rfl rfl (Or.inl rfl) rfl ?_
    refine am_s_virtual true dc201_2.2.1.1 rfl (by decide) rfl rfl rfl (am_mth_of rfl rfl ?_)
    refine am_s_aload_n rfl dc194_0.1.1.1 ?_
    refine am_x_getI (x := I 163 5) dc194_0.1.1.2 rfl rfl (Or.inl rfl) rfl ?_
    refine am_s_iconst am_ccm1 dc194_0.1.2.1 ?_
    refine am_s_ic_eq dc194_0.1.2.2 rfl (fun c2 => ?_) (fun c2 => ?_)
    · refine am_s_aload_n rfl dc194_0.2.1.2 ?_
      refine am_s_iload_n rfl dc194_0.2.2.1 ?_
      refine am_s_putI dc194_0.2.2.2 rfl rfl rfl rfl ?_
      refine am_s_aload_n rfl dc194_1.1.1 ?_
      refine am_s_iload_n rfl dc194_1.1.2 ?_
      refine am_s_putI dc194_1.2.1 rfl rfl rfl rfl ?_
      refine am_s_return dc194_1.2.2 rfl (am_bkV ?_)
      refine am_s_iconst am_cc0 dc201_2.2.1.2 ?_
      exact am_s_ireturn dc201_2.2.2.1 rfl ((vi_t (vi_t q c1) c2))
    · refine am_s_return dc194_0.2.1.1 rfl (am_bkV ?_)
      refine am_s_iconst am_cc0 dc201_2.2.1.2 ?_
      exact am_s_ireturn dc201_2.2.2.1 rfl ((vi_f (vi_t q c1) c2))
  · refine am_s_iload_n rfl dc197_0.1.2.2 ?_
    refine am_s_bipush am_cb57 dc197_0.2.1.1 ?_
    refine am_s_ic_gt dc197_0.2.1.2 rfl (fun c2 => ?_) (fun c2 => ?_)
    · refine am_s_iconst am_cc0 dc197_1.1 ?_
      refine am_s_zreturn dc197_1.2 rfl (by decide) (am_bkI ?_)
      refine am_s_if_ne dc201_1.2.2.2 rfl (fun z => absurd z (by decide)) (fun _ => ?_)
      refine am_s_aload_n rfl dc201_2.1.1.1 ?_
      refine am_s_iconst am_cc1 dc201_2.1.1.2 ?_
      refine am_s_aload_n rfl dc201_2.1.2.1 ?_
      refine am_x_getI (x := I 163 4) dc201_2.1.2.2 rfl rfl (Or.inl rfl) rfl ?_
      refine am_s_virtual true dc201_2.2.1.1 rfl (by decide) rfl rfl rfl (am_mth_of rfl rfl ?_)
      refine am_s_aload_n rfl dc194_0.1.1.1 ?_
      refine am_x_getI (x := I 163 5) dc194_0.1.1.2 rfl rfl (Or.inl rfl) rfl ?_
      refine am_s_iconst am_ccm1 dc194_0.1.2.1 ?_
      refine am_s_ic_eq dc194_0.1.2.2 rfl (fun c3 => ?_) (fun c3 => ?_)
      · refine am_s_aload_n rfl dc194_0.2.1.2 ?_
        refine am_s_iload_n rfl dc194_0.2.2.1 ?_
        refine am_s_putI dc194_0.2.2.2 rfl rfl rfl rfl ?_
        refine am_s_aload_n rfl dc194_1.1.1 ?_
        refine am_s_iload_n rfl dc194_1.1.2 ?_
        refine am_s_putI dc194_1.2.1 rfl rfl rfl rfl ?_
        refine am_s_return dc194_1.2.2 rfl (am_bkV ?_)
        refine am_s_iconst am_cc0 dc201_2.2.1.2 ?_
        exact am_s_ireturn dc201_2.2.2.1 rfl ((vi_t (vi_t (vi_f q c1) c2) c3))
      · refine am_s_return dc194_0.2.1.1 rfl (am_bkV ?_)
        refine am_s_iconst am_cc0 dc201_2.2.1.2 ?_
        exact am_s_ireturn dc201_2.2.2.1 rfl ((vi_f (vi_t (vi_f q c1) c2) c3))
    · refine am_s_iconst am_cc1 dc197_0.2.2.1 ?_
      refine am_s_goto rfl dc197_0.2.2.2 ?_
      refine am_s_zreturn dc197_1.2 rfl (by decide) (am_bkI ?_)
      refine am_s_if_ne dc201_1.2.2.2 rfl (fun _ => ?_) (fun z => absurd z (by decide))
      exact (vi_f (vi_f q c1) c2)
-- needs (I)V
theorem v202_0 {sc : Option (Nat × (Nat → Int32))} {d k n : Nat} {P : am_O → Prop} {I : am_I} {J : am_J} {Pf : am_R} (hp : am_PF Pf) {x1 : Int32} (q : (if (I 163 5) = (-1) then (am_mth (d + 1) 195 [.ref 163] (am_SH, I, J, Pf) (am_af sc (d + 1) 202 8 [some (.ref 163), some (.int x1)] [.ref 163] [] (am_SH, I, J, Pf) k n true P)) else (am_go sc (d + 1) 202 (24, [some (.ref 163), some (.int x1)], [], (am_SH, I, J, Pf), k, n) P))) : am_go sc (d + 1) 202 (0, [some (.ref 163), some (.int x1)], [], (am_SH, I, J, Pf), k, n) P := by
  refine am_s_aload_n rfl dc202_0.1.1.1 ?_
  refine am_s_virtual true dc202_0.1.1.2 rfl (by decide) rfl rfl rfl (am_mth_of rfl rfl ?_)
  refine am_s_aload_n rfl dc193_0.1.1.1 ?_
  refine am_x_getI (x := I 163 5) dc193_0.1.1.2 rfl rfl (Or.inl rfl) rfl ?_
  refine am_s_iconst am_ccm1 dc193_0.1.2.1 ?_
  refine am_s_ic_ne dc193_0.1.2.2 rfl (fun c1 => ?_) (fun c1 => ?_)
  · refine am_s_iconst am_cc0 dc193_0.2.2.1 ?_
    refine am_s_zreturn dc193_0.2.2.2 rfl (by decide) (am_bkI ?_)
    refine am_s_if_eq dc202_0.1.2.1 rfl (fun _ => ?_) (fun z => absurd z (by decide))
    exact (vi_f q c1)
  · refine am_s_iconst am_cc1 dc193_0.2.1.1 ?_
    refine am_s_goto rfl dc193_0.2.1.2 ?_
    refine am_s_zreturn dc193_0.2.2.2 rfl (by decide) (am_bkI ?_)
    refine am_s_if_eq dc202_0.1.2.1 rfl (fun z => absurd z (by decide)) (fun _ => ?_)
    refine am_s_aload_n rfl dc202_0.1.2.2 ?_
    exact am_s_virtual true dc202_0.2.1.1 rfl (by decide) rfl rfl rfl ((vi_t q (Decidable.not_not.mp c1)))
theorem v202_24 {sc : Option (Nat × (Nat → Int32))} {d k n : Nat} {P : am_O → Prop} {I : am_I} {J : am_J} {Pf : am_R} (hp : am_PF Pf) {l1 : Option Value} (q : (if (I 163 5) = (-1) then (P (.inl none, (am_SH, am_u I 163 4 ((I 163 4) + 1), J, Pf), k, n)) else (P (.inl none, (am_SH, I, J, Pf), k, n)))) : am_go sc (d + 1) 202 (24, [some (.ref 163), l1], [], (am_SH, I, J, Pf), k, n) P := by
  refine am_s_aload_n rfl dc202_1.2.1.1 ?_
  refine am_s_virtual true dc202_1.2.1.2 rfl (by decide) rfl rfl rfl (am_mth_of rfl rfl ?_)
  refine am_s_aload_n rfl dc193_0.1.1.1 ?_
  refine am_x_getI (x := I 163 5) dc193_0.1.1.2 rfl rfl (Or.inl rfl) rfl ?_
  refine am_s_iconst am_ccm1 dc193_0.1.2.1 ?_
  refine am_s_ic_ne dc193_0.1.2.2 rfl (fun c1 => ?_) (fun c1 => ?_)
  · refine am_s_iconst am_cc0 dc193_0.2.2.1 ?_
    refine am_s_zreturn dc193_0.2.2.2 rfl (by decide) (am_bkI ?_)
    refine am_s_if_eq dc202_1.2.2.1 rfl (fun _ => ?_) (fun z => absurd z (by decide))
    exact am_s_return dc202_2.2.2.2 rfl ((vi_f q c1))
  · refine am_s_iconst am_cc1 dc193_0.2.1.1 ?_
    refine am_s_goto rfl dc193_0.2.1.2 ?_
    refine am_s_zreturn dc193_0.2.2.2 rfl (by decide) (am_bkI ?_)
    refine am_s_if_eq dc202_1.2.2.1 rfl (fun z => absurd z (by decide)) (fun _ => ?_)
    refine am_s_aload_n rfl dc202_1.2.2.2 ?_
    refine am_s_dup rfl dc202_2.1.1 ?_
    refine am_x_getI (x := I 163 4) dc202_2.1.2.1 rfl rfl (Or.inl rfl) rfl ?_
    refine am_s_iconst am_cc1 dc202_2.1.2.2 ?_
    refine am_s_iadd dc202_2.2.1 ?_
    refine am_s_putI dc202_2.2.2.1 rfl rfl rfl rfl ?_
    exact am_s_return dc202_2.2.2.2 rfl ((vi_t q (Decidable.not_not.mp c1)))
theorem v202_11 {sc : Option (Nat × (Nat → Int32))} {d k n : Nat} {P : am_O → Prop} {I : am_I} {J : am_J} {Pf : am_R} (hp : am_PF Pf) {x1 : Int32} {s0 : Int32} (q : (if s0 = x1 then (am_go sc (d + 1) 202 (24, [some (.ref 163), some (.int x1)], [], (am_SH, I, J, Pf), k, n) P) else (if (I 163 5) = (-1) then (am_go sc (d + 1) 202 (24, [some (.ref 163), some (.int x1)], [], (am_SH, am_u (am_u I 163 5 (I 163 4)) 163 6 1, J, Pf), k, n) P) else (am_go sc (d + 1) 202 (24, [some (.ref 163), some (.int x1)], [], (am_SH, I, J, Pf), k, n) P)))) : am_go sc (d + 1) 202 (11, [some (.ref 163), some (.int x1)], [.int s0], (am_SH, I, J, Pf), k, n) P := by
  refine am_s_iload_n rfl dc202_0.2.1.2 ?_
  refine am_s_ic_eq dc202_0.2.2.1 rfl (fun c1 => ?_) (fun c1 => ?_)
  · exact (vi_t q c1)
  · refine am_s_aload_n rfl dc202_0.2.2.2 ?_
    refine am_s_iconst am_cc1 dc202_1.1.1.1 ?_
    refine am_s_aload_n rfl dc202_1.1.1.2 ?_
    refine am_x_getI (x := I 163 4) dc202_1.1.2.1 rfl rfl (Or.inl rfl) rfl ?_
    refine am_s_virtual true dc202_1.1.2.2 rfl (by decide) rfl rfl rfl (am_mth_of rfl rfl ?_)
    refine am_s_aload_n rfl dc194_0.1.1.1 ?_
    refine am_x_getI (x := I 163 5) dc194_0.1.1.2 rfl rfl (Or.inl rfl) rfl ?_
    refine am_s_iconst am_ccm1 dc194_0.1.2.1 ?_
    refine am_s_ic_eq dc194_0.1.2.2 rfl (fun c2 => ?_) (fun c2 => ?_)
    · refine am_s_aload_n rfl dc194_0.2.1.2 ?_
      refine am_s_iload_n rfl dc194_0.2.2.1 ?_
      refine am_s_putI dc194_0.2.2.2 rfl rfl rfl rfl ?_
      refine am_s_aload_n rfl dc194_1.1.1 ?_
      refine am_s_iload_n rfl dc194_1.1.2 ?_
      refine am_s_putI dc194_1.2.1 rfl rfl rfl rfl ?_
      refine am_s_return dc194_1.2.2 rfl (am_bkV ?_)
      exact (vi_t (vi_f q c1) c2)
    · refine am_s_return dc194_0.2.1.1 rfl (am_bkV ?_)
      exact (vi_f (vi_f q c1) c2)
-- isMore ()Z
theorem v203_0 {sc : Option (Nat × (Nat → Int32))} {d k n : Nat} {P : am_O → Prop} {I : am_I} {J : am_J} {Pf : am_R} (hp : am_PF Pf)  (q : (am_mth d 195 [.ref 163] (am_SH, I, J, Pf) (am_af sc d 203 1 [some (.ref 163)] [.ref 163] [] (am_SH, I, J, Pf) k n true P))) : am_go sc d 203 (0, [some (.ref 163)], [], (am_SH, I, J, Pf), k, n) P := by
  refine am_s_aload_n rfl dc203_0.1.1.1 ?_
  exact am_s_virtual true dc203_0.1.1.2 rfl (by decide) rfl rfl rfl (q)
theorem v203_4 {sc : Option (Nat × (Nat → Int32))} {d k n : Nat} {P : am_O → Prop} {I : am_I} {J : am_J} {Pf : am_R} (hp : am_PF Pf) {s0 : Int32} (q : (if (I 163 3) ≤ (I 163 4) then (P (.inl (some (.int 0)), (am_SH, I, J, Pf), k, n)) else (P (.inl (some (.int 1)), (am_SH, I, J, Pf), k, n)))) : am_go sc d 203 (4, [some (.ref 163)], [.int s0], (am_SH, I, J, Pf), k, n) P := by
  refine am_s_pop rfl dc203_0.1.2.1 ?_
  refine am_s_aload_n rfl dc203_0.1.2.2 ?_
  refine am_x_getI (x := I 163 4) dc203_0.2.1.1 rfl rfl (Or.inl rfl) rfl ?_
  refine am_s_aload_n rfl dc203_0.2.1.2 ?_
  refine am_x_getI (x := I 163 3) dc203_0.2.2.1 rfl rfl (Or.inl rfl) rfl ?_
  refine am_s_ic_ge dc203_0.2.2.2 rfl (fun c1 => ?_) (fun c1 => ?_)
  · refine am_s_iconst am_cc0 dc203_1.2.1 ?_
    exact am_s_zreturn dc203_1.2.2 rfl (by decide) ((vi_t q c1))
  · refine am_s_iconst am_cc1 dc203_1.1.1 ?_
    refine am_s_goto rfl dc203_1.1.2 ?_
    exact am_s_zreturn dc203_1.2.2 rfl (by decide) ((vi_f q c1))
-- starts (I)V
theorem v204_0 {sc : Option (Nat × (Nat → Int32))} {d k n : Nat} {P : am_O → Prop} {I : am_I} {J : am_J} {Pf : am_R} (hp : am_PF Pf) {x1 : Int32} (q : (P (.inl none, (am_SH, am_u (am_u (am_u (am_u (am_u (am_u (am_u I 163 2 0) 163 8 (-1)) 163 3 x1) 163 4 0) 163 5 (-1)) 163 7 0) 163 10 (-1), J, Pf), k, n))) : am_go sc d 204 (0, [some (.ref 163), some (.int x1)], [], (am_SH, I, J, Pf), k, n) P := by
  refine am_s_aload_n rfl dc204_0.1.1.1 ?_
  refine am_s_iconst am_cc0 dc204_0.1.1.2 ?_
  refine am_s_putI dc204_0.1.2.1 rfl rfl rfl rfl ?_
  refine am_s_aload_n rfl dc204_0.1.2.2 ?_
  refine am_s_iconst am_ccm1 dc204_0.2.1.1 ?_
  refine am_s_putI dc204_0.2.1.2 rfl rfl rfl rfl ?_
  refine am_s_aload_n rfl dc204_0.2.2.1 ?_
  refine am_s_iload_n rfl dc204_0.2.2.2 ?_
  refine am_s_putI dc204_1.1.1.1 rfl rfl rfl rfl ?_
  refine am_s_aload_n rfl dc204_1.1.1.2 ?_
  refine am_s_iconst am_cc0 dc204_1.1.2.1 ?_
  refine am_s_putI dc204_1.1.2.2 rfl rfl rfl rfl ?_
  refine am_s_aload_n rfl dc204_1.2.1.1 ?_
  refine am_s_iconst am_ccm1 dc204_1.2.1.2 ?_
  refine am_s_putI dc204_1.2.2.1 rfl rfl rfl rfl ?_
  refine am_s_aload_n rfl dc204_1.2.2.2 ?_
  refine am_s_iconst am_cc0 dc204_2.1.1 ?_
  refine am_s_putI dc204_2.1.2.1 rfl rfl rfl rfl ?_
  refine am_s_aload_n rfl dc204_2.1.2.2 ?_
  refine am_s_iconst am_ccm1 dc204_2.2.1 ?_
  refine am_s_putI dc204_2.2.2.1 rfl rfl rfl rfl ?_
  exact am_s_return dc204_2.2.2.2 rfl (q)
-- result (I)I
theorem v205_0 {sc : Option (Nat × (Nat → Int32))} {d k n : Nat} {P : am_O → Prop} {I : am_I} {J : am_J} {Pf : am_R} (hp : am_PF Pf) {x1 : Int32} (q : (if (I 163 5) = (-1) then (P (.inl (some (.int x1)), (am_SH, am_u I 163 8 (I 163 5), J, Pf), k, n)) else (P (.inl (some (.int ((I 163 6) - 10))), (am_SH, am_u I 163 8 (I 163 5), J, Pf), k, n)))) : am_go sc (d + 1) 205 (0, [some (.ref 163), some (.int x1)], [], (am_SH, I, J, Pf), k, n) P := by
  refine am_s_aload_n rfl dc205_0.1.1.1 ?_
  refine am_s_aload_n rfl dc205_0.1.1.2 ?_
  refine am_x_getI (x := I 163 5) dc205_0.1.2.1 rfl rfl (Or.inl rfl) rfl ?_
  refine am_s_putI dc205_0.1.2.2 rfl rfl rfl rfl ?_
  refine am_s_aload_n rfl dc205_0.2.1.1 ?_
  refine am_s_virtual true dc205_0.2.1.2 rfl (by decide) rfl rfl rfl (am_mth_of rfl rfl ?_)
  refine am_s_aload_n rfl dc193_0.1.1.1 ?_
  refine am_x_getI (x := I 163 5) dc193_0.1.1.2 rfl rfl (Or.inl rfl) rfl ?_
  refine am_s_iconst am_ccm1 dc193_0.1.2.1 ?_
  refine am_s_ic_ne dc193_0.1.2.2 rfl (fun c1 => ?_) (fun c1 => ?_)
  · refine am_s_iconst am_cc0 dc193_0.2.2.1 ?_
    refine am_s_zreturn dc193_0.2.2.2 rfl (by decide) (am_bkI ?_)
    refine am_s_if_eq dc205_0.2.2.1 rfl (fun _ => ?_) (fun z => absurd z (by decide))
    refine am_s_aload_n rfl dc205_1.1.2.1 ?_
    refine am_x_getI (x := I 163 6) dc205_1.1.2.2 rfl rfl (Or.inl rfl) rfl ?_
    refine am_s_bipush am_cb10 dc205_1.2.1 ?_
    refine am_s_isub dc205_1.2.2.1 ?_
    exact am_s_ireturn dc205_1.2.2.2 rfl ((vi_f q c1))
  · refine am_s_iconst am_cc1 dc193_0.2.1.1 ?_
    refine am_s_goto rfl dc193_0.2.1.2 ?_
    refine am_s_zreturn dc193_0.2.2.2 rfl (by decide) (am_bkI ?_)
    refine am_s_if_eq dc205_0.2.2.1 rfl (fun z => absurd z (by decide)) (fun _ => ?_)
    refine am_s_iload_n rfl dc205_0.2.2.2 ?_
    refine am_s_goto rfl dc205_1.1.1 ?_
    exact am_s_ireturn dc205_1.2.2.2 rfl ((vi_t q (Decidable.not_not.mp c1)))
-- fault ()I
theorem v206_0 {sc : Option (Nat × (Nat → Int32))} {d k n : Nat} {P : am_O → Prop} {I : am_I} {J : am_J} {Pf : am_R} (hp : am_PF Pf)  (q : (P (.inl (some (.int (I 163 8))), (am_SH, am_u I 163 0 0, J, Pf), k, n))) : am_go sc d 206 (0, [some (.ref 163)], [], (am_SH, I, J, Pf), k, n) P := by
  refine am_s_aload_n rfl dc206_0.1.1 ?_
  refine am_s_iconst am_cc0 dc206_0.1.2.1 ?_
  refine am_s_putI dc206_0.1.2.2 rfl rfl rfl rfl ?_
  refine am_s_aload_n rfl dc206_0.2.1 ?_
  refine am_x_getI (x := I 163 8) dc206_0.2.2.1 rfl rfl (Or.inl rfl) rfl ?_
  exact am_s_ireturn dc206_0.2.2.2 rfl (q)
-- copies ([I[II)V
theorem v207_0 {sc : Option (Nat × (Nat → Int32))} {d k n : Nat} {P : am_O → Prop} {I : am_I} {J : am_J} {Pf : am_R} (hp : am_PF Pf) {l0 : Option Value} {x1 : Nat} {Lx1 : Nat} (hx1 : am_SH[x1]? = some (.inr (0, Lx1))) {x2 : Nat} {Lx2 : Nat} (hx2 : am_SH[x2]? = some (.inr (0, Lx2))) {x3 : Int32} {l4 : Option Value} (q : (am_go sc d 207 (3, [l0, some (.ref x1), some (.ref x2), some (.int x3), some (.int 0)], [], (am_SH, I, J, Pf), k, n) P)) : am_go sc d 207 (0, [l0, some (.ref x1), some (.ref x2), some (.int x3), l4], [], (am_SH, I, J, Pf), k, n) P := by
  refine am_s_iconst am_cc0 dc207_0.1.1.1 ?_
  refine am_s_istore (ls' := [l0, some (.ref x1), some (.ref x2), some (.int x3), some (.int 0)]) rfl rfl dc207_0.1.1.2 ?_
  exact q
theorem v207_3 {sc : Option (Nat × (Nat → Int32))} {d k n : Nat} {P : am_O → Prop} {I : am_I} {J : am_J} {Pf : am_R} (hp : am_PF Pf) {l0 : Option Value} {x1 : Nat} {Lx1 : Nat} (hx1 : am_SH[x1]? = some (.inr (0, Lx1))) {x2 : Nat} {Lx2 : Nat} (hx2 : am_SH[x2]? = some (.inr (0, Lx2))) {x3 : Int32} {x4 : Int32} (q : (if x3 ≤ x4 then (P (.inl none, (am_SH, I, J, Pf), k, n)) else (am_in x4 Lx1 = true) ∧ (am_in x4 Lx2 = true) ∧ (am_go sc d 207 (3, [l0, some (.ref x1), some (.ref x2), some (.int x3), some (.int (x4 + 1))], [], (am_SH, am_u I x2 (Int32.toNatClampNeg x4) (I x1 (Int32.toNatClampNeg x4)), J, Pf), k, n) P))) : am_go sc d 207 (3, [l0, some (.ref x1), some (.ref x2), some (.int x3), some (.int x4)], [], (am_SH, I, J, Pf), k, n) P := by
  refine am_s_iload rfl dc207_0.1.2.1 ?_
  refine am_s_iload_n rfl dc207_0.1.2.2 ?_
  refine am_s_ic_ge dc207_0.2.1.1 rfl (fun c1 => ?_) (fun c1 => ?_)
  · exact am_s_return dc207_1.2.2.2 rfl ((vi_t q c1))
  · refine am_s_aload_n rfl dc207_0.2.1.2 ?_
    refine am_s_iload rfl dc207_0.2.2.1 ?_
    refine am_s_aload_n rfl dc207_0.2.2.2 ?_
    refine am_s_iload rfl dc207_1.1.1 ?_
    refine am_x_iaload (x := I x1 (Int32.toNatClampNeg x4)) dc207_1.1.2.1 hx1 ((vi_f q c1).1) rfl rfl ?_
    refine am_s_iastore dc207_1.1.2.2 hx2 ((vi_f q c1).2.1) rfl ?_
    refine am_s_iinc (ls' := [l0, some (.ref x1), some (.ref x2), some (.int x3), some (.int (x4 + 1))]) am_cc1 rfl rfl dc207_1.2.1 ?_
    refine am_s_goto rfl dc207_1.2.2.1 ?_
    exact (vi_f q c1).2.2
-- clears ()V
theorem v208_0 {sc : Option (Nat × (Nat → Int32))} {d k n : Nat} {P : am_O → Prop} {I : am_I} {J : am_J} {Pf : am_R} (hp : am_PF Pf) {l1 : Option Value} (q : (am_go sc d 208 (2, [some (.ref 163), some (.int 0)], [], (am_SH, I, J, Pf), k, n) P)) : am_go sc d 208 (0, [some (.ref 163), l1], [], (am_SH, I, J, Pf), k, n) P := by
  refine am_s_iconst am_cc0 dc208_0.1.1.1 ?_
  refine am_s_istore_n (ls' := [some (.ref 163), some (.int 0)]) rfl rfl dc208_0.1.1.2 ?_
  exact q
theorem v208_2 {sc : Option (Nat × (Nat → Int32))} {d k n : Nat} {P : am_O → Prop} {I : am_I} {J : am_J} {Pf : am_R} (hp : am_PF Pf) {x1 : Int32} (q : (if 1040 ≤ x1 then (P (.inl none, (am_SH, am_u I 166 5 (-1), J, Pf), k, n)) else (am_in x1 1040 = true) ∧ (am_go sc d 208 (2, [some (.ref 163), some (.int (x1 + 1))], [], (am_SH, am_u I 166 (Int32.toNatClampNeg x1) 0, J, Pf), k, n) P))) : am_go sc d 208 (2, [some (.ref 163), some (.int x1)], [], (am_SH, I, J, Pf), k, n) P := by
  refine am_s_iload_n rfl dc208_0.1.2.1 ?_
  refine am_s_sipush am_cs1040 dc208_0.1.2.2 ?_
  refine am_s_ic_ge dc208_0.2.1.1 rfl (fun c1 => ?_) (fun c1 => ?_)
  · refine am_s_aload_n rfl dc208_1.2.1.1 ?_
    refine am_s_getR (r := 166) dc208_1.2.1.2 rfl rfl rfl (hp _ _ _ rfl) ?_
    refine am_s_iconst am_cc5 dc208_1.2.2.1 ?_
    refine am_s_iconst am_ccm1 dc208_1.2.2.2 ?_
    refine am_s_iastore dc208_2.1 rfl (by decide +kernel) am_cN5 ?_
    exact am_s_return dc208_2.2 rfl ((vi_t q c1))
  · refine am_s_aload_n rfl dc208_0.2.1.2 ?_
    refine am_s_getR (r := 166) dc208_0.2.2.1 rfl rfl rfl (hp _ _ _ rfl) ?_
    refine am_s_iload_n rfl dc208_0.2.2.2 ?_
    refine am_s_iconst am_cc0 dc208_1.1.1.1 ?_
    refine am_s_iastore dc208_1.1.1.2 rfl ((vi_f q c1).1) rfl ?_
    refine am_s_iinc (ls' := [some (.ref 163), some (.int (x1 + 1))]) am_cc1 rfl rfl dc208_1.1.2.1 ?_
    refine am_s_goto rfl dc208_1.1.2.2 ?_
    exact (vi_f q c1).2
-- sets ()V
theorem v209_0 {sc : Option (Nat × (Nat → Int32))} {d k n : Nat} {P : am_O → Prop} {I : am_I} {J : am_J} {Pf : am_R} (hp : am_PF Pf) {l1 : Option Value} (q : (am_mth d 207 [.ref 163, .ref 166, .ref 167, .int 1040] (am_SH, I, J, Pf) (am_af sc d 209 12 [some (.ref 163), l1] [.int 1040, .ref 167, .ref 166, .ref 163] [] (am_SH, I, J, Pf) k n true P))) : am_go sc d 209 (0, [some (.ref 163), l1], [], (am_SH, I, J, Pf), k, n) P := by
  refine am_s_aload_n rfl dc209_0.1.1.1 ?_
  refine am_s_aload_n rfl dc209_0.1.1.2 ?_
  refine am_s_getR (r := 166) dc209_0.1.2.1 rfl rfl rfl (hp _ _ _ rfl) ?_
  refine am_s_aload_n rfl dc209_0.1.2.2 ?_
  refine am_s_getR (r := 167) dc209_0.2.1.1 rfl rfl rfl (hp _ _ _ rfl) ?_
  refine am_s_sipush am_cs1040 dc209_0.2.1.2 ?_
  exact am_s_virtual true dc209_0.2.2.1 rfl (by decide) rfl rfl rfl (q)
theorem v209_47 {sc : Option (Nat × (Nat → Int32))} {d k n : Nat} {P : am_O → Prop} {I : am_I} {J : am_J} {Pf : am_R} (hp : am_PF Pf) {x1 : Int32} (q : (if 25 ≤ x1 then (am_mth d 231 [.ref 163, .ref 167] (am_SH, I, J, Pf) (am_af sc d 209 71 [some (.ref 163), some (.int x1)] [.ref 167, .ref 163] [] (am_SH, I, J, Pf) k n true P)) else (am_in x1 25 = true) ∧ (am_go sc d 209 (47, [some (.ref 163), some (.int (x1 + 1))], [], (am_SH, am_u I 180 (Int32.toNatClampNeg x1) 0, J, Pf), k, n) P))) : am_go sc d 209 (47, [some (.ref 163), some (.int x1)], [], (am_SH, I, J, Pf), k, n) P := by
  refine am_s_iload_n rfl dc209_3.1.2.2 ?_
  refine am_s_bipush am_cb25 dc209_3.2.1.1 ?_
  refine am_s_ic_ge dc209_3.2.1.2 rfl (fun c1 => ?_) (fun c1 => ?_)
  · refine am_s_aload_n rfl dc209_4.2.1.2 ?_
    refine am_s_aload_n rfl dc209_4.2.2.1 ?_
    refine am_s_getR (r := 167) dc209_4.2.2.2 rfl rfl rfl (hp _ _ _ rfl) ?_
    exact am_s_virtual true dc209_5.1 rfl (by decide) rfl rfl rfl ((vi_t q c1))
  · refine am_s_aload_n rfl dc209_3.2.2.1 ?_
    refine am_s_getR (r := 180) dc209_3.2.2.2 rfl rfl rfl (hp _ _ _ rfl) ?_
    refine am_s_iload_n rfl dc209_4.1.1.1 ?_
    refine am_s_iconst am_cc0 dc209_4.1.1.2 ?_
    refine am_s_iastore dc209_4.1.2.1 rfl ((vi_f q c1).1) rfl ?_
    refine am_s_iinc (ls' := [some (.ref 163), some (.int (x1 + 1))]) am_cc1 rfl rfl dc209_4.1.2.2 ?_
    refine am_s_goto rfl dc209_4.2.1.1 ?_
    exact (vi_f q c1).2
theorem v209_15 {sc : Option (Nat × (Nat → Int32))} {d k n : Nat} {P : am_O → Prop} {I : am_I} {J : am_J} {Pf : am_R} (hp : am_PF Pf) {l1 : Option Value} (q : (am_go sc d 209 (47, [some (.ref 163), some (.int 0)], [], (am_SH, am_u (am_u (am_u (am_u (am_u (am_u I 163 29 0) 163 34 0) 163 65 0) 163 35 0) 163 48 0) 163 46 0, J, Pf), k, n) P)) : am_go sc d 209 (15, [some (.ref 163), l1], [], (am_SH, I, J, Pf), k, n) P := by
  refine am_s_aload_n rfl dc209_0.2.2.2 ?_
  refine am_s_iconst am_cc0 dc209_1.1.1.1 ?_
  refine am_s_putI dc209_1.1.1.2 rfl rfl rfl rfl ?_
  refine am_s_aload_n rfl dc209_1.1.2.1 ?_
  refine am_s_iconst am_cc0 dc209_1.1.2.2 ?_
  refine am_s_putI dc209_1.2.1.1 rfl rfl rfl rfl ?_
  refine am_s_aload_n rfl dc209_1.2.1.2 ?_
  refine am_s_iconst am_cc0 dc209_1.2.2.1 ?_
  refine am_s_putI dc209_1.2.2.2 rfl rfl rfl rfl ?_
  refine am_s_aload_n rfl dc209_2.1.1.1 ?_
  refine am_s_iconst am_cc0 dc209_2.1.1.2 ?_
  refine am_s_putI dc209_2.1.2.1 rfl rfl rfl rfl ?_
  refine am_s_aload_n rfl dc209_2.1.2.2 ?_
  refine am_s_iconst am_cc0 dc209_2.2.1.1 ?_
  refine am_s_putI dc209_2.2.1.2 rfl rfl rfl rfl ?_
  refine am_s_aload_n rfl dc209_2.2.2.1 ?_
  refine am_s_iconst am_cc0 dc209_2.2.2.2 ?_
  refine am_s_putZ dc209_3.1.1.1 rfl rfl rfl rfl (by decide) ?_
  refine am_s_iconst am_cc0 dc209_3.1.1.2 ?_
  refine am_s_istore_n (ls' := [some (.ref 163), some (.int 0)]) rfl rfl dc209_3.1.2.1 ?_
  exact q
theorem v209_74 {sc : Option (Nat × (Nat → Int32))} {d k n : Nat} {P : am_O → Prop} {I : am_I} {J : am_J} {Pf : am_R} (hp : am_PF Pf) {l0 : Option Value} {l1 : Option Value} (q : (P (.inl none, (am_SH, I, J, Pf), k, n))) : am_go sc d 209 (74, [l0, l1], [], (am_SH, I, J, Pf), k, n) P := by
  exact am_s_return dc209_5.2 rfl (q)
-- raw ()I
theorem v210_0 {sc : Option (Nat × (Nat → Int32))} {d k n : Nat} {P : am_O → Prop} {I : am_I} {J : am_J} {Pf : am_R} (hp : am_PF Pf)  (q : (if (I 163 3) ≤ (I 163 4) then (P (.inl (some (.int 0)), (am_SH, I, J, Pf), k, n)) else (am_in (I 163 4) 600 = true) ∧ (P (.inl (some (.int (I 165 (Int32.toNatClampNeg (I 163 4))))), (am_SH, I, J, Pf), k, n)))) : am_go sc d 210 (0, [some (.ref 163)], [], (am_SH, I, J, Pf), k, n) P := by
  refine am_s_aload_n rfl dc210_0.1.1.1 ?_
  refine am_x_getI (x := I 163 4) dc210_0.1.1.2 rfl rfl (Or.inl rfl) rfl ?_
  refine am_s_aload_n rfl dc210_0.1.2.1 ?_
  refine am_x_getI (x := I 163 3) dc210_0.1.2.2 rfl rfl (Or.inl rfl) rfl ?_
  refine am_s_ic_ge dc210_0.2.1.1 rfl (fun c1 => ?_) (fun c1 => ?_)
  · refine am_s_iconst am_cc0 dc210_1.2.2.1 ?_
    exact am_s_ireturn dc210_1.2.2.2 rfl ((vi_t q c1))
  · refine am_s_aload_n rfl dc210_0.2.1.2 ?_
    refine am_s_getR (r := 165) dc210_0.2.2.1 rfl rfl rfl (hp _ _ _ rfl) ?_
    refine am_s_aload_n rfl dc210_0.2.2.2 ?_
    refine am_x_getI (x := I 163 4) dc210_1.1.1 rfl rfl (Or.inl rfl) rfl ?_
    refine am_x_iaload (x := I 165 (Int32.toNatClampNeg (I 163 4))) dc210_1.1.2 rfl ((vi_f q c1).1) rfl rfl ?_
    refine am_s_goto rfl dc210_1.2.1 ?_
    exact am_s_ireturn dc210_1.2.2.2 rfl ((vi_f q c1).2)
-- isSign (I)Z
theorem v211_0 {sc : Option (Nat × (Nat → Int32))} {d k n : Nat} {P : am_O → Prop} {I : am_I} {J : am_J} {Pf : am_R} (hp : am_PF Pf) {l0 : Option Value} {x1 : Int32} (q : (if x1 < 32 then (P (.inl (some (.int 0)), (am_SH, I, J, Pf), k, n)) else (if 127 ≤ x1 then (P (.inl (some (.int 0)), (am_SH, I, J, Pf), k, n)) else (P (.inl (some (.int 1)), (am_SH, I, J, Pf), k, n))))) : am_go sc d 211 (0, [l0, some (.int x1)], [], (am_SH, I, J, Pf), k, n) P := by
  refine am_s_iload_n rfl dc211_0.1.1.1 ?_
  refine am_s_bipush am_cb32 dc211_0.1.1.2 ?_
  refine am_s_ic_lt dc211_0.1.2.1 rfl (fun c1 => ?_) (fun c1 => ?_)
  · refine am_s_iconst am_cc0 dc211_1.1 ?_
    exact am_s_zreturn dc211_1.2 rfl (by decide) ((vi_t q c1))
  · refine am_s_iload_n rfl dc211_0.1.2.2 ?_
    refine am_s_bipush am_cb127 dc211_0.2.1.1 ?_
    refine am_s_ic_ge dc211_0.2.1.2 rfl (fun c2 => ?_) (fun c2 => ?_)
    · refine am_s_iconst am_cc0 dc211_1.1 ?_
      exact am_s_zreturn dc211_1.2 rfl (by decide) ((vi_t (vi_f q c1) c2))
    · refine am_s_iconst am_cc1 dc211_0.2.2.1 ?_
      refine am_s_goto rfl dc211_0.2.2.2 ?_
      exact am_s_zreturn dc211_1.2 rfl (by decide) ((vi_f (vi_f q c1) c2))
-- readSign (Z)I
theorem v212_0 {sc : Option (Nat × (Nat → Int32))} {d k n : Nat} {P : am_O → Prop} {I : am_I} {J : am_J} {Pf : am_R} (hp : am_PF Pf) {x1 : Int32} {l2 : Option Value} (q : (if (I 163 5) = (-1) then (if (I 163 3) ≤ (I 163 4) then (am_go sc (d + 1) 212 (95, [some (.ref 163), some (.int x1), some (.int 0)], [], (am_SH, I, J, Pf), k, n) P) else (am_in (I 163 4) 600 = true) ∧ (if (I 165 (Int32.toNatClampNeg (I 163 4))) = 92 then (if (I 163 3) ≤ ((I 163 4) + 1) then (if ((I 163 4) + 1) = (-1) then (P (.inl (some (.int 0)), (am_SH, am_u (am_u (am_u (am_u I 163 4 ((I 163 4) + 1)) 163 5 ((I 163 4) + 1)) 163 6 1) 163 4 (((I 163 4) + 1) + 1), J, Pf), k, n)) else (P (.inl (some (.int 0)), (am_SH, am_u (am_u (am_u I 163 4 ((I 163 4) + 1)) 163 5 ((I 163 4) + 1)) 163 6 1, J, Pf), k, n))) else (am_in ((I 163 4) + 1) 600 = true) ∧ (if (I 165 (Int32.toNatClampNeg ((I 163 4) + 1))) < 32 then (if ((I 163 4) + 1) = (-1) then (P (.inl (some (.int (I 165 (Int32.toNatClampNeg ((I 163 4) + 1))))), (am_SH, am_u (am_u (am_u (am_u I 163 4 ((I 163 4) + 1)) 163 5 ((I 163 4) + 1)) 163 6 1) 163 4 (((I 163 4) + 1) + 1), J, Pf), k, n)) else (P (.inl (some (.int 0)), (am_SH, am_u (am_u (am_u I 163 4 ((I 163 4) + 1)) 163 5 ((I 163 4) + 1)) 163 6 1, J, Pf), k, n))) else (if 127 ≤ (I 165 (Int32.toNatClampNeg ((I 163 4) + 1))) then (if ((I 163 4) + 1) = (-1) then (P (.inl (some (.int (I 165 (Int32.toNatClampNeg ((I 163 4) + 1))))), (am_SH, am_u (am_u (am_u (am_u I 163 4 ((I 163 4) + 1)) 163 5 ((I 163 4) + 1)) 163 6 1) 163 4 (((I 163 4) + 1) + 1), J, Pf), k, n)) else (P (.inl (some (.int 0)), (am_SH, am_u (am_u (am_u I 163 4 ((I 163 4) + 1)) 163 5 ((I 163 4) + 1)) 163 6 1, J, Pf), k, n))) else (P (.inl (some (.int (I 165 (Int32.toNatClampNeg ((I 163 4) + 1))))), (am_SH, am_u (am_u I 163 4 ((I 163 4) + 1)) 163 4 (((I 163 4) + 1) + 1), J, Pf), k, n))))) else (if (I 165 (Int32.toNatClampNeg (I 163 4))) < 32 then (am_go sc (d + 1) 212 (95, [some (.ref 163), some (.int x1), some (.int (I 165 (Int32.toNatClampNeg (I 163 4))))], [], (am_SH, I, J, Pf), k, n) P) else (if 127 ≤ (I 165 (Int32.toNatClampNeg (I 163 4))) then (am_go sc (d + 1) 212 (95, [some (.ref 163), some (.int x1), some (.int (I 165 (Int32.toNatClampNeg (I 163 4))))], [], (am_SH, I, J, Pf), k, n) P) else (if x1 = 0 then (am_go sc (d + 1) 212 (73, [some (.ref 163), some (.int x1), some (.int (I 165 (Int32.toNatClampNeg (I 163 4))))], [], (am_SH, I, J, Pf), k, n) P) else (if (I 165 (Int32.toNatClampNeg (I 163 4))) = 39 then (am_go sc (d + 1) 212 (95, [some (.ref 163), some (.int x1), some (.int (I 165 (Int32.toNatClampNeg (I 163 4))))], [], (am_SH, I, J, Pf), k, n) P) else (am_go sc (d + 1) 212 (73, [some (.ref 163), some (.int x1), some (.int (I 165 (Int32.toNatClampNeg (I 163 4))))], [], (am_SH, I, J, Pf), k, n) P))))))) else (P (.inl (some (.int 0)), (am_SH, I, J, Pf), k, n)))) : am_go sc (d + 1) 212 (0, [some (.ref 163), some (.int x1), l2], [], (am_SH, I, J, Pf), k, n) P := by
  refine am_s_aload_n rfl dc212_0.1.1.1 ?_
  refine am_s_virtual true dc212_0.1.1.2 rfl (by decide) rfl rfl rfl (am_mth_of rfl rfl ?_)
  refine am_s_aload_n rfl dc193_0.1.1.1 ?_
  refine am_x_getI (x := I 163 5) dc193_0.1.1.2 rfl rfl (Or.inl rfl) rfl ?_
  refine am_s_iconst am_ccm1 dc193_0.1.2.1 ?_
  refine am_s_ic_ne dc193_0.1.2.2 rfl (fun c1 => ?_) (fun c1 => ?_)
  · refine am_s_iconst am_cc0 dc193_0.2.2.1 ?_
    refine am_s_zreturn dc193_0.2.2.2 rfl (by decide) (am_bkI ?_)
    refine am_s_if_ne dc212_0.1.2.1 rfl (fun z => absurd z (by decide)) (fun _ => ?_)
    refine am_s_iconst am_cc0 dc212_0.1.2.2 ?_
    exact am_s_ireturn dc212_0.2.1.1 rfl ((vi_f q c1))
  · refine am_s_iconst am_cc1 dc193_0.2.1.1 ?_
    refine am_s_goto rfl dc193_0.2.1.2 ?_
    refine am_s_zreturn dc193_0.2.2.2 rfl (by decide) (am_bkI ?_)
    refine am_s_if_ne dc212_0.1.2.1 rfl (fun _ => ?_) (fun z => absurd z (by decide))
    refine am_s_aload_n rfl dc212_0.2.1.2 ?_
    refine am_s_virtual true dc212_0.2.2.1 rfl (by decide) rfl rfl rfl (am_mth_of rfl rfl ?_)
    refine am_s_aload_n rfl dc210_0.1.1.1 ?_
    refine am_x_getI (x := I 163 4) dc210_0.1.1.2 rfl rfl (Or.inl rfl) rfl ?_
    refine am_s_aload_n rfl dc210_0.1.2.1 ?_
    refine am_x_getI (x := I 163 3) dc210_0.1.2.2 rfl rfl (Or.inl rfl) rfl ?_
    refine am_s_ic_ge dc210_0.2.1.1 rfl (fun c2 => ?_) (fun c2 => ?_)
    · refine am_s_iconst am_cc0 dc210_1.2.2.1 ?_
      refine am_s_ireturn dc210_1.2.2.2 rfl (am_bkI ?_)
      refine am_s_istore_n (ls' := [some (.ref 163), some (.int x1), some (.int 0)]) rfl rfl dc212_0.2.2.2 ?_
      refine am_s_iload_n rfl dc212_1.1.1.1 ?_
      refine am_s_bipush am_cb92 dc212_1.1.1.2 ?_
      refine am_s_ic_ne dc212_1.1.2.1 rfl (fun _ => ?_) (fun z => absurd z (by decide))
      refine am_s_aload_n rfl dc212_3.2.2.1 ?_
      refine am_s_iload_n rfl dc212_3.2.2.2 ?_
      refine am_s_virtual true dc212_4.1.1.1 rfl (by decide) rfl rfl rfl (am_mth_of rfl rfl ?_)
      refine am_s_iload_n rfl dc211_0.1.1.1 ?_
      refine am_s_bipush am_cb32 dc211_0.1.1.2 ?_
      refine am_s_ic_lt dc211_0.1.2.1 rfl (fun _ => ?_) (fun z => absurd z (by decide))
      refine am_s_iconst am_cc0 dc211_1.1 ?_
      refine am_s_zreturn dc211_1.2 rfl (by decide) (am_bkI ?_)
      refine am_s_if_eq dc212_4.1.1.2 rfl (fun _ => ?_) (fun z => absurd z (by decide))
      exact (vi_t (vi_t q (Decidable.not_not.mp c1)) c2)
    · refine am_s_aload_n rfl dc210_0.2.1.2 ?_
      refine am_s_getR (r := 165) dc210_0.2.2.1 rfl rfl rfl (hp _ _ _ rfl) ?_
      refine am_s_aload_n rfl dc210_0.2.2.2 ?_
      refine am_x_getI (x := I 163 4) dc210_1.1.1 rfl rfl (Or.inl rfl) rfl ?_
      refine am_x_iaload (x := I 165 (Int32.toNatClampNeg (I 163 4))) dc210_1.1.2 rfl ((vi_f (vi_t q (Decidable.not_not.mp c1)) c2).1) rfl rfl ?_
      refine am_s_goto rfl dc210_1.2.1 ?_
      refine am_s_ireturn dc210_1.2.2.2 rfl (am_bkI ?_)
      refine am_s_istore_n (ls' := [some (.ref 163), some (.int x1), some (.int (I 165 (Int32.toNatClampNeg (I 163 4))))]) rfl rfl dc212_0.2.2.2 ?_
      refine am_s_iload_n rfl dc212_1.1.1.1 ?_
      refine am_s_bipush am_cb92 dc212_1.1.1.2 ?_
      refine am_s_ic_ne dc212_1.1.2.1 rfl (fun c3 => ?_) (fun c3 => ?_)
      · refine am_s_aload_n rfl dc212_3.2.2.1 ?_
        refine am_s_iload_n rfl dc212_3.2.2.2 ?_
        refine am_s_virtual true dc212_4.1.1.1 rfl (by decide) rfl rfl rfl (am_mth_of rfl rfl ?_)
        refine am_s_iload_n rfl dc211_0.1.1.1 ?_
        refine am_s_bipush am_cb32 dc211_0.1.1.2 ?_
        refine am_s_ic_lt dc211_0.1.2.1 rfl (fun c4 => ?_) (fun c4 => ?_)
        · refine am_s_iconst am_cc0 dc211_1.1 ?_
          refine am_s_zreturn dc211_1.2 rfl (by decide) (am_bkI ?_)
          refine am_s_if_eq dc212_4.1.1.2 rfl (fun _ => ?_) (fun z => absurd z (by decide))
          exact (vi_t (vi_f (vi_f (vi_t q (Decidable.not_not.mp c1)) c2).2 c3) c4)
        · refine am_s_iload_n rfl dc211_0.1.2.2 ?_
          refine am_s_bipush am_cb127 dc211_0.2.1.1 ?_
          refine am_s_ic_ge dc211_0.2.1.2 rfl (fun c5 => ?_) (fun c5 => ?_)
          · refine am_s_iconst am_cc0 dc211_1.1 ?_
            refine am_s_zreturn dc211_1.2 rfl (by decide) (am_bkI ?_)
            refine am_s_if_eq dc212_4.1.1.2 rfl (fun _ => ?_) (fun z => absurd z (by decide))
            exact (vi_t (vi_f (vi_f (vi_f (vi_t q (Decidable.not_not.mp c1)) c2).2 c3) c4) c5)
          · refine am_s_iconst am_cc1 dc211_0.2.2.1 ?_
            refine am_s_goto rfl dc211_0.2.2.2 ?_
            refine am_s_zreturn dc211_1.2 rfl (by decide) (am_bkI ?_)
            refine am_s_if_eq dc212_4.1.1.2 rfl (fun z => absurd z (by decide)) (fun _ => ?_)
            refine am_s_iload_n rfl dc212_4.1.2.1 ?_
            refine am_s_if_eq dc212_4.1.2.2 rfl (fun c6 => ?_) (fun c6 => ?_)
            · exact (vi_t (vi_f (vi_f (vi_f (vi_f (vi_t q (Decidable.not_not.mp c1)) c2).2 c3) c4) c5) c6)
            · refine am_s_iload_n rfl dc212_4.2.1.1 ?_
              refine am_s_bipush am_cb39 dc212_4.2.1.2 ?_
              refine am_s_ic_eq dc212_4.2.2.1 rfl (fun c7 => ?_) (fun c7 => ?_)
              · exact (vi_t (vi_f (vi_f (vi_f (vi_f (vi_f (vi_t q (Decidable.not_not.mp c1)) c2).2 c3) c4) c5) c6) c7)
              · exact (vi_f (vi_f (vi_f (vi_f (vi_f (vi_f (vi_t q (Decidable.not_not.mp c1)) c2).2 c3) c4) c5) c6) c7)
      · refine am_s_aload_n rfl dc212_1.1.2.2 ?_
        refine am_s_dup rfl dc212_1.2.1.1 ?_
        refine am_x_getI (x := I 163 4) dc212_1.2.1.2 rfl rfl (Or.inl rfl) rfl ?_
        refine am_s_iconst am_cc1 dc212_1.2.2.1 ?_
        refine am_s_iadd dc212_1.2.2.2 ?_
        refine am_s_putI dc212_2.1.1.1 rfl rfl rfl rfl ?_
        refine am_s_aload_n rfl dc212_2.1.1.2 ?_
        refine am_s_virtual true dc212_2.1.2.1 rfl (by decide) rfl rfl rfl (am_mth_of rfl rfl ?_)
        refine am_s_aload_n rfl dc210_0.1.1.1 ?_
        refine am_x_getI (x := (I 163 4) + 1) dc210_0.1.1.2 rfl rfl (Or.inl rfl) rfl ?_
        refine am_s_aload_n rfl dc210_0.1.2.1 ?_
        refine am_x_getI (x := I 163 3) dc210_0.1.2.2 rfl rfl (Or.inl rfl) rfl ?_
        refine am_s_ic_ge dc210_0.2.1.1 rfl (fun c4 => ?_) (fun c4 => ?_)
        · refine am_s_iconst am_cc0 dc210_1.2.2.1 ?_
          refine am_s_ireturn dc210_1.2.2.2 rfl (am_bkI ?_)
          refine am_s_istore_n (ls' := [some (.ref 163), some (.int x1), some (.int 0)]) rfl rfl dc212_2.1.2.2 ?_
          refine am_s_aload_n rfl dc212_2.2.1.1 ?_
          refine am_s_iload_n rfl dc212_2.2.1.2 ?_
          refine am_s_virtual true dc212_2.2.2.1 rfl (by decide) rfl rfl rfl (am_mth_of rfl rfl ?_)
          refine am_s_iload_n rfl dc211_0.1.1.1 ?_
          refine am_s_bipush am_cb32 dc211_0.1.1.2 ?_
          refine am_s_ic_lt dc211_0.1.2.1 rfl (fun _ => ?_) (fun z => absurd z (by decide))
          refine am_s_iconst am_cc0 dc211_1.1 ?_
          refine am_s_zreturn dc211_1.2 rfl (by decide) (am_bkI ?_)
          refine am_s_if_ne dc212_2.2.2.2 rfl (fun z => absurd z (by decide)) (fun _ => ?_)
          refine am_s_aload_n rfl dc212_3.1.1.1 ?_
          refine am_s_iconst am_cc1 dc212_3.1.1.2 ?_
          refine am_s_aload_n rfl dc212_3.1.2.1 ?_
          refine am_x_getI (x := (I 163 4) + 1) dc212_3.1.2.2 rfl rfl (Or.inl rfl) rfl ?_
          refine am_s_virtual true dc212_3.2.1.1 rfl (by decide) rfl rfl rfl (am_mth_of rfl rfl ?_)
          refine am_s_aload_n rfl dc194_0.1.1.1 ?_
          refine am_x_getI (x := I 163 5) dc194_0.1.1.2 rfl rfl (Or.inl rfl) rfl ?_
          refine am_s_iconst am_ccm1 dc194_0.1.2.1 ?_
          refine am_s_ic_eq dc194_0.1.2.2 rfl (fun _ => ?_) (fun z => absurd z c1)
          refine am_s_aload_n rfl dc194_0.2.1.2 ?_
          refine am_s_iload_n rfl dc194_0.2.2.1 ?_
          refine am_s_putI dc194_0.2.2.2 rfl rfl rfl rfl ?_
          refine am_s_aload_n rfl dc194_1.1.1 ?_
          refine am_s_iload_n rfl dc194_1.1.2 ?_
          refine am_s_putI dc194_1.2.1 rfl rfl rfl rfl ?_
          refine am_s_return dc194_1.2.2 rfl (am_bkV ?_)
          refine am_s_goto rfl dc212_3.2.1.2 ?_
          refine am_s_aload_n rfl dc212_6.2.2.2 ?_
          refine am_s_virtual true dc212_7.1.1.1 rfl (by decide) rfl rfl rfl (am_mth_of rfl rfl ?_)
          refine am_s_aload_n rfl dc193_0.1.1.1 ?_
          refine am_x_getI (x := (I 163 4) + 1) dc193_0.1.1.2 rfl rfl (Or.inl rfl) rfl ?_
          refine am_s_iconst am_ccm1 dc193_0.1.2.1 ?_
          refine am_s_ic_ne dc193_0.1.2.2 rfl (fun c5 => ?_) (fun c5 => ?_)
          · refine am_s_iconst am_cc0 dc193_0.2.2.1 ?_
            refine am_s_zreturn dc193_0.2.2.2 rfl (by decide) (am_bkI ?_)
            refine am_s_if_ne dc212_7.1.1.2 rfl (fun z => absurd z (by decide)) (fun _ => ?_)
            refine am_s_iconst am_cc0 dc212_7.1.2.1 ?_
            exact am_s_ireturn dc212_7.1.2.2 rfl ((vi_f (vi_t (vi_t (vi_f (vi_t q (Decidable.not_not.mp c1)) c2).2 (Decidable.not_not.mp c3)) c4) c5))
          · refine am_s_iconst am_cc1 dc193_0.2.1.1 ?_
            refine am_s_goto rfl dc193_0.2.1.2 ?_
            refine am_s_zreturn dc193_0.2.2.2 rfl (by decide) (am_bkI ?_)
            refine am_s_if_ne dc212_7.1.1.2 rfl (fun _ => ?_) (fun z => absurd z (by decide))
            refine am_s_aload_n rfl dc212_7.2.1.1 ?_
            refine am_s_dup rfl dc212_7.2.1.2 ?_
            refine am_x_getI (x := (I 163 4) + 1) dc212_7.2.2.1 rfl rfl (Or.inl rfl) rfl ?_
            refine am_s_iconst am_cc1 dc212_7.2.2.2 ?_
            refine am_s_iadd dc212_8.1.1 ?_
            refine am_s_putI dc212_8.1.2 rfl rfl rfl rfl ?_
            refine am_s_iload_n rfl dc212_8.2.1 ?_
            exact am_s_ireturn dc212_8.2.2 rfl ((vi_t (vi_t (vi_t (vi_f (vi_t q (Decidable.not_not.mp c1)) c2).2 (Decidable.not_not.mp c3)) c4) (Decidable.not_not.mp c5)))
        · refine am_s_aload_n rfl dc210_0.2.1.2 ?_
          refine am_s_getR (r := 165) dc210_0.2.2.1 rfl rfl rfl (hp _ _ _ rfl) ?_
          refine am_s_aload_n rfl dc210_0.2.2.2 ?_
          refine am_x_getI (x := (I 163 4) + 1) dc210_1.1.1 rfl rfl (Or.inl rfl) rfl ?_
          refine am_x_iaload (x := I 165 (Int32.toNatClampNeg ((I 163 4) + 1))) dc210_1.1.2 rfl ((vi_f (vi_t (vi_f (vi_t q (Decidable.not_not.mp c1)) c2).2 (Decidable.not_not.mp c3)) c4).1) rfl rfl ?_
          refine am_s_goto rfl dc210_1.2.1 ?_
          refine am_s_ireturn dc210_1.2.2.2 rfl (am_bkI ?_)
          refine am_s_istore_n (ls' := [some (.ref 163), some (.int x1), some (.int (I 165 (Int32.toNatClampNeg ((I 163 4) + 1))))]) rfl rfl dc212_2.1.2.2 ?_
          refine am_s_aload_n rfl dc212_2.2.1.1 ?_
          refine am_s_iload_n rfl dc212_2.2.1.2 ?_
          refine am_s_virtual true dc212_2.2.2.1 rfl (by decide) rfl rfl rfl (am_mth_of rfl rfl ?_)
          refine am_s_iload_n rfl dc211_0.1.1.1 ?_
          refine am_s_bipush am_cb32 dc211_0.1.1.2 ?_
          refine am_s_ic_lt dc211_0.1.2.1 rfl (fun c5 => ?_) (fun c5 => ?_)
          · refine am_s_iconst am_cc0 dc211_1.1 ?_
            refine am_s_zreturn dc211_1.2 rfl (by decide) (am_bkI ?_)
            refine am_s_if_ne dc212_2.2.2.2 rfl (fun z => absurd z (by decide)) (fun _ => ?_)
            refine am_s_aload_n rfl dc212_3.1.1.1 ?_
            refine am_s_iconst am_cc1 dc212_3.1.1.2 ?_
            refine am_s_aload_n rfl dc212_3.1.2.1 ?_
            refine am_x_getI (x := (I 163 4) + 1) dc212_3.1.2.2 rfl rfl (Or.inl rfl) rfl ?_
            refine am_s_virtual true dc212_3.2.1.1 rfl (by decide) rfl rfl rfl (am_mth_of rfl rfl ?_)
            refine am_s_aload_n rfl dc194_0.1.1.1 ?_
            refine am_x_getI (x := I 163 5) dc194_0.1.1.2 rfl rfl (Or.inl rfl) rfl ?_
            refine am_s_iconst am_ccm1 dc194_0.1.2.1 ?_
            refine am_s_ic_eq dc194_0.1.2.2 rfl (fun _ => ?_) (fun z => absurd z c1)
            refine am_s_aload_n rfl dc194_0.2.1.2 ?_
            refine am_s_iload_n rfl dc194_0.2.2.1 ?_
            refine am_s_putI dc194_0.2.2.2 rfl rfl rfl rfl ?_
            refine am_s_aload_n rfl dc194_1.1.1 ?_
            refine am_s_iload_n rfl dc194_1.1.2 ?_
            refine am_s_putI dc194_1.2.1 rfl rfl rfl rfl ?_
            refine am_s_return dc194_1.2.2 rfl (am_bkV ?_)
            refine am_s_goto rfl dc212_3.2.1.2 ?_
            refine am_s_aload_n rfl dc212_6.2.2.2 ?_
            refine am_s_virtual true dc212_7.1.1.1 rfl (by decide) rfl rfl rfl (am_mth_of rfl rfl ?_)
            refine am_s_aload_n rfl dc193_0.1.1.1 ?_
            refine am_x_getI (x := (I 163 4) + 1) dc193_0.1.1.2 rfl rfl (Or.inl rfl) rfl ?_
            refine am_s_iconst am_ccm1 dc193_0.1.2.1 ?_
            refine am_s_ic_ne dc193_0.1.2.2 rfl (fun c6 => ?_) (fun c6 => ?_)
            · refine am_s_iconst am_cc0 dc193_0.2.2.1 ?_
              refine am_s_zreturn dc193_0.2.2.2 rfl (by decide) (am_bkI ?_)
              refine am_s_if_ne dc212_7.1.1.2 rfl (fun z => absurd z (by decide)) (fun _ => ?_)
              refine am_s_iconst am_cc0 dc212_7.1.2.1 ?_
              exact am_s_ireturn dc212_7.1.2.2 rfl ((vi_f (vi_t (vi_f (vi_t (vi_f (vi_t q (Decidable.not_not.mp c1)) c2).2 (Decidable.not_not.mp c3)) c4).2 c5) c6))
            · refine am_s_iconst am_cc1 dc193_0.2.1.1 ?_
              refine am_s_goto rfl dc193_0.2.1.2 ?_
              refine am_s_zreturn dc193_0.2.2.2 rfl (by decide) (am_bkI ?_)
              refine am_s_if_ne dc212_7.1.1.2 rfl (fun _ => ?_) (fun z => absurd z (by decide))
              refine am_s_aload_n rfl dc212_7.2.1.1 ?_
              refine am_s_dup rfl dc212_7.2.1.2 ?_
              refine am_x_getI (x := (I 163 4) + 1) dc212_7.2.2.1 rfl rfl (Or.inl rfl) rfl ?_
              refine am_s_iconst am_cc1 dc212_7.2.2.2 ?_
              refine am_s_iadd dc212_8.1.1 ?_
              refine am_s_putI dc212_8.1.2 rfl rfl rfl rfl ?_
              refine am_s_iload_n rfl dc212_8.2.1 ?_
              exact am_s_ireturn dc212_8.2.2 rfl ((vi_t (vi_t (vi_f (vi_t (vi_f (vi_t q (Decidable.not_not.mp c1)) c2).2 (Decidable.not_not.mp c3)) c4).2 c5) (Decidable.not_not.mp c6)))
          · refine am_s_iload_n rfl dc211_0.1.2.2 ?_
            refine am_s_bipush am_cb127 dc211_0.2.1.1 ?_
            refine am_s_ic_ge dc211_0.2.1.2 rfl (fun c6 => ?_) (fun c6 => ?_)
            · refine am_s_iconst am_cc0 dc211_1.1 ?_
              refine am_s_zreturn dc211_1.2 rfl (by decide) (am_bkI ?_)
              refine am_s_if_ne dc212_2.2.2.2 rfl (fun z => absurd z (by decide)) (fun _ => ?_)
              refine am_s_aload_n rfl dc212_3.1.1.1 ?_
              refine am_s_iconst am_cc1 dc212_3.1.1.2 ?_
              refine am_s_aload_n rfl dc212_3.1.2.1 ?_
              refine am_x_getI (x := (I 163 4) + 1) dc212_3.1.2.2 rfl rfl (Or.inl rfl) rfl ?_
              refine am_s_virtual true dc212_3.2.1.1 rfl (by decide) rfl rfl rfl (am_mth_of rfl rfl ?_)
              refine am_s_aload_n rfl dc194_0.1.1.1 ?_
              refine am_x_getI (x := I 163 5) dc194_0.1.1.2 rfl rfl (Or.inl rfl) rfl ?_
              refine am_s_iconst am_ccm1 dc194_0.1.2.1 ?_
              refine am_s_ic_eq dc194_0.1.2.2 rfl (fun _ => ?_) (fun z => absurd z c1)
              refine am_s_aload_n rfl dc194_0.2.1.2 ?_
              refine am_s_iload_n rfl dc194_0.2.2.1 ?_
              refine am_s_putI dc194_0.2.2.2 rfl rfl rfl rfl ?_
              refine am_s_aload_n rfl dc194_1.1.1 ?_
              refine am_s_iload_n rfl dc194_1.1.2 ?_
              refine am_s_putI dc194_1.2.1 rfl rfl rfl rfl ?_
              refine am_s_return dc194_1.2.2 rfl (am_bkV ?_)
              refine am_s_goto rfl dc212_3.2.1.2 ?_
              refine am_s_aload_n rfl dc212_6.2.2.2 ?_
              refine am_s_virtual true dc212_7.1.1.1 rfl (by decide) rfl rfl rfl (am_mth_of rfl rfl ?_)
              refine am_s_aload_n rfl dc193_0.1.1.1 ?_
              refine am_x_getI (x := (I 163 4) + 1) dc193_0.1.1.2 rfl rfl (Or.inl rfl) rfl ?_
              refine am_s_iconst am_ccm1 dc193_0.1.2.1 ?_
              refine am_s_ic_ne dc193_0.1.2.2 rfl (fun c7 => ?_) (fun c7 => ?_)
              · refine am_s_iconst am_cc0 dc193_0.2.2.1 ?_
                refine am_s_zreturn dc193_0.2.2.2 rfl (by decide) (am_bkI ?_)
                refine am_s_if_ne dc212_7.1.1.2 rfl (fun z => absurd z (by decide)) (fun _ => ?_)
                refine am_s_iconst am_cc0 dc212_7.1.2.1 ?_
                exact am_s_ireturn dc212_7.1.2.2 rfl ((vi_f (vi_t (vi_f (vi_f (vi_t (vi_f (vi_t q (Decidable.not_not.mp c1)) c2).2 (Decidable.not_not.mp c3)) c4).2 c5) c6) c7))
              · refine am_s_iconst am_cc1 dc193_0.2.1.1 ?_
                refine am_s_goto rfl dc193_0.2.1.2 ?_
                refine am_s_zreturn dc193_0.2.2.2 rfl (by decide) (am_bkI ?_)
                refine am_s_if_ne dc212_7.1.1.2 rfl (fun _ => ?_) (fun z => absurd z (by decide))
                refine am_s_aload_n rfl dc212_7.2.1.1 ?_
                refine am_s_dup rfl dc212_7.2.1.2 ?_
                refine am_x_getI (x := (I 163 4) + 1) dc212_7.2.2.1 rfl rfl (Or.inl rfl) rfl ?_
                refine am_s_iconst am_cc1 dc212_7.2.2.2 ?_
                refine am_s_iadd dc212_8.1.1 ?_
                refine am_s_putI dc212_8.1.2 rfl rfl rfl rfl ?_
                refine am_s_iload_n rfl dc212_8.2.1 ?_
                exact am_s_ireturn dc212_8.2.2 rfl ((vi_t (vi_t (vi_f (vi_f (vi_t (vi_f (vi_t q (Decidable.not_not.mp c1)) c2).2 (Decidable.not_not.mp c3)) c4).2 c5) c6) (Decidable.not_not.mp c7)))
            · refine am_s_iconst am_cc1 dc211_0.2.2.1 ?_
              refine am_s_goto rfl dc211_0.2.2.2 ?_
              refine am_s_zreturn dc211_1.2 rfl (by decide) (am_bkI ?_)
              refine am_s_if_ne dc212_2.2.2.2 rfl (fun _ => ?_) (fun z => absurd z (by decide))
              refine am_s_aload_n rfl dc212_6.2.2.2 ?_
              refine am_s_virtual true dc212_7.1.1.1 rfl (by decide) rfl rfl rfl (am_mth_of rfl rfl ?_)
              refine am_s_aload_n rfl dc193_0.1.1.1 ?_
              refine am_x_getI (x := I 163 5) dc193_0.1.1.2 rfl rfl (Or.inl rfl) rfl ?_
              refine am_s_iconst am_ccm1 dc193_0.1.2.1 ?_
              refine am_s_ic_ne dc193_0.1.2.2 rfl (fun z => absurd z c1) (fun _ => ?_)
              refine am_s_iconst am_cc1 dc193_0.2.1.1 ?_
              refine am_s_goto rfl dc193_0.2.1.2 ?_
              refine am_s_zreturn dc193_0.2.2.2 rfl (by decide) (am_bkI ?_)
              refine am_s_if_ne dc212_7.1.1.2 rfl (fun _ => ?_) (fun z => absurd z (by decide))
              refine am_s_aload_n rfl dc212_7.2.1.1 ?_
              refine am_s_dup rfl dc212_7.2.1.2 ?_
              refine am_x_getI (x := (I 163 4) + 1) dc212_7.2.2.1 rfl rfl (Or.inl rfl) rfl ?_
              refine am_s_iconst am_cc1 dc212_7.2.2.2 ?_
              refine am_s_iadd dc212_8.1.1 ?_
              refine am_s_putI dc212_8.1.2 rfl rfl rfl rfl ?_
              refine am_s_iload_n rfl dc212_8.2.1 ?_
              exact am_s_ireturn dc212_8.2.2 rfl ((vi_f (vi_f (vi_f (vi_t (vi_f (vi_t q (Decidable.not_not.mp c1)) c2).2 (Decidable.not_not.mp c3)) c4).2 c5) c6))
theorem v212_73 {sc : Option (Nat × (Nat → Int32))} {d k n : Nat} {P : am_O → Prop} {I : am_I} {J : am_J} {Pf : am_R} (hp : am_PF Pf) {x1 : Int32} {x2 : Int32} (q : (if x1 = 0 then (if x2 = 93 then (am_go sc (d + 1) 212 (95, [some (.ref 163), some (.int x1), some (.int x2)], [], (am_SH, I, J, Pf), k, n) P) else (if x2 = 45 then (am_go sc (d + 1) 212 (95, [some (.ref 163), some (.int x1), some (.int x2)], [], (am_SH, I, J, Pf), k, n) P) else (if x2 = 32 then (am_go sc (d + 1) 212 (95, [some (.ref 163), some (.int x1), some (.int x2)], [], (am_SH, I, J, Pf), k, n) P) else (if (I 163 5) = (-1) then (P (.inl (some (.int x2)), (am_SH, am_u I 163 4 ((I 163 4) + 1), J, Pf), k, n)) else (P (.inl (some (.int 0)), (am_SH, I, J, Pf), k, n)))))) else (if (I 163 5) = (-1) then (P (.inl (some (.int x2)), (am_SH, am_u I 163 4 ((I 163 4) + 1), J, Pf), k, n)) else (P (.inl (some (.int 0)), (am_SH, I, J, Pf), k, n))))) : am_go sc (d + 1) 212 (73, [some (.ref 163), some (.int x1), some (.int x2)], [], (am_SH, I, J, Pf), k, n) P := by
  refine am_s_iload_n rfl dc212_4.2.2.2 ?_
  refine am_s_if_ne dc212_5.1.1.1 rfl (fun c1 => ?_) (fun c1 => ?_)
  · refine am_s_aload_n rfl dc212_6.2.2.2 ?_
    refine am_s_virtual true dc212_7.1.1.1 rfl (by decide) rfl rfl rfl (am_mth_of rfl rfl ?_)
    refine am_s_aload_n rfl dc193_0.1.1.1 ?_
    refine am_x_getI (x := I 163 5) dc193_0.1.1.2 rfl rfl (Or.inl rfl) rfl ?_
    refine am_s_iconst am_ccm1 dc193_0.1.2.1 ?_
    refine am_s_ic_ne dc193_0.1.2.2 rfl (fun c2 => ?_) (fun c2 => ?_)
    · refine am_s_iconst am_cc0 dc193_0.2.2.1 ?_
      refine am_s_zreturn dc193_0.2.2.2 rfl (by decide) (am_bkI ?_)
      refine am_s_if_ne dc212_7.1.1.2 rfl (fun z => absurd z (by decide)) (fun _ => ?_)
      refine am_s_iconst am_cc0 dc212_7.1.2.1 ?_
      exact am_s_ireturn dc212_7.1.2.2 rfl ((vi_f (vi_f q c1) c2))
    · refine am_s_iconst am_cc1 dc193_0.2.1.1 ?_
      refine am_s_goto rfl dc193_0.2.1.2 ?_
      refine am_s_zreturn dc193_0.2.2.2 rfl (by decide) (am_bkI ?_)
      refine am_s_if_ne dc212_7.1.1.2 rfl (fun _ => ?_) (fun z => absurd z (by decide))
      refine am_s_aload_n rfl dc212_7.2.1.1 ?_
      refine am_s_dup rfl dc212_7.2.1.2 ?_
      refine am_x_getI (x := I 163 4) dc212_7.2.2.1 rfl rfl (Or.inl rfl) rfl ?_
      refine am_s_iconst am_cc1 dc212_7.2.2.2 ?_
      refine am_s_iadd dc212_8.1.1 ?_
      refine am_s_putI dc212_8.1.2 rfl rfl rfl rfl ?_
      refine am_s_iload_n rfl dc212_8.2.1 ?_
      exact am_s_ireturn dc212_8.2.2 rfl ((vi_t (vi_f q c1) (Decidable.not_not.mp c2)))
  · refine am_s_iload_n rfl dc212_5.1.1.2 ?_
    refine am_s_bipush am_cb93 dc212_5.1.2.1 ?_
    refine am_s_ic_eq dc212_5.1.2.2 rfl (fun c2 => ?_) (fun c2 => ?_)
    · exact (vi_t (vi_t q (Decidable.not_not.mp c1)) c2)
    · refine am_s_iload_n rfl dc212_5.2.1.1 ?_
      refine am_s_bipush am_cb45 dc212_5.2.1.2 ?_
      refine am_s_ic_eq dc212_5.2.2.1 rfl (fun c3 => ?_) (fun c3 => ?_)
      · exact (vi_t (vi_f (vi_t q (Decidable.not_not.mp c1)) c2) c3)
      · refine am_s_iload_n rfl dc212_5.2.2.2 ?_
        refine am_s_bipush am_cb32 dc212_6.1.1.1 ?_
        refine am_s_ic_ne dc212_6.1.1.2 rfl (fun c4 => ?_) (fun c4 => ?_)
        · refine am_s_aload_n rfl dc212_6.2.2.2 ?_
          refine am_s_virtual true dc212_7.1.1.1 rfl (by decide) rfl rfl rfl (am_mth_of rfl rfl ?_)
          refine am_s_aload_n rfl dc193_0.1.1.1 ?_
          refine am_x_getI (x := I 163 5) dc193_0.1.1.2 rfl rfl (Or.inl rfl) rfl ?_
          refine am_s_iconst am_ccm1 dc193_0.1.2.1 ?_
          refine am_s_ic_ne dc193_0.1.2.2 rfl (fun c5 => ?_) (fun c5 => ?_)
          · refine am_s_iconst am_cc0 dc193_0.2.2.1 ?_
            refine am_s_zreturn dc193_0.2.2.2 rfl (by decide) (am_bkI ?_)
            refine am_s_if_ne dc212_7.1.1.2 rfl (fun z => absurd z (by decide)) (fun _ => ?_)
            refine am_s_iconst am_cc0 dc212_7.1.2.1 ?_
            exact am_s_ireturn dc212_7.1.2.2 rfl ((vi_f (vi_f (vi_f (vi_f (vi_t q (Decidable.not_not.mp c1)) c2) c3) c4) c5))
          · refine am_s_iconst am_cc1 dc193_0.2.1.1 ?_
            refine am_s_goto rfl dc193_0.2.1.2 ?_
            refine am_s_zreturn dc193_0.2.2.2 rfl (by decide) (am_bkI ?_)
            refine am_s_if_ne dc212_7.1.1.2 rfl (fun _ => ?_) (fun z => absurd z (by decide))
            refine am_s_aload_n rfl dc212_7.2.1.1 ?_
            refine am_s_dup rfl dc212_7.2.1.2 ?_
            refine am_x_getI (x := I 163 4) dc212_7.2.2.1 rfl rfl (Or.inl rfl) rfl ?_
            refine am_s_iconst am_cc1 dc212_7.2.2.2 ?_
            refine am_s_iadd dc212_8.1.1 ?_
            refine am_s_putI dc212_8.1.2 rfl rfl rfl rfl ?_
            refine am_s_iload_n rfl dc212_8.2.1 ?_
            exact am_s_ireturn dc212_8.2.2 rfl ((vi_t (vi_f (vi_f (vi_f (vi_t q (Decidable.not_not.mp c1)) c2) c3) c4) (Decidable.not_not.mp c5)))
        · exact (vi_t (vi_f (vi_f (vi_t q (Decidable.not_not.mp c1)) c2) c3) (Decidable.not_not.mp c4))
theorem v212_95 {sc : Option (Nat × (Nat → Int32))} {d k n : Nat} {P : am_O → Prop} {I : am_I} {J : am_J} {Pf : am_R} (hp : am_PF Pf) {l1 : Option Value} {x2 : Int32} (q : (if (I 163 5) = (-1) then (if (I 163 4) = (-1) then (P (.inl (some (.int x2)), (am_SH, am_u (am_u (am_u I 163 5 (I 163 4)) 163 6 1) 163 4 ((I 163 4) + 1), J, Pf), k, n)) else (P (.inl (some (.int 0)), (am_SH, am_u (am_u I 163 5 (I 163 4)) 163 6 1, J, Pf), k, n))) else (P (.inl (some (.int 0)), (am_SH, I, J, Pf), k, n)))) : am_go sc (d + 1) 212 (95, [some (.ref 163), l1, some (.int x2)], [], (am_SH, I, J, Pf), k, n) P := by
  refine am_s_aload_n rfl dc212_6.1.2.1 ?_
  refine am_s_iconst am_cc1 dc212_6.1.2.2 ?_
  refine am_s_aload_n rfl dc212_6.2.1.1 ?_
  refine am_x_getI (x := I 163 4) dc212_6.2.1.2 rfl rfl (Or.inl rfl) rfl ?_
  refine am_s_virtual true dc212_6.2.2.1 rfl (by decide) rfl rfl rfl (am_mth_of rfl rfl ?_)
  refine am_s_aload_n rfl dc194_0.1.1.1 ?_
  refine am_x_getI (x := I 163 5) dc194_0.1.1.2 rfl rfl (Or.inl rfl) rfl ?_
  refine am_s_iconst am_ccm1 dc194_0.1.2.1 ?_
  refine am_s_ic_eq dc194_0.1.2.2 rfl (fun c1 => ?_) (fun c1 => ?_)
  · refine am_s_aload_n rfl dc194_0.2.1.2 ?_
    refine am_s_iload_n rfl dc194_0.2.2.1 ?_
    refine am_s_putI dc194_0.2.2.2 rfl rfl rfl rfl ?_
    refine am_s_aload_n rfl dc194_1.1.1 ?_
    refine am_s_iload_n rfl dc194_1.1.2 ?_
    refine am_s_putI dc194_1.2.1 rfl rfl rfl rfl ?_
    refine am_s_return dc194_1.2.2 rfl (am_bkV ?_)
    refine am_s_aload_n rfl dc212_6.2.2.2 ?_
    refine am_s_virtual true dc212_7.1.1.1 rfl (by decide) rfl rfl rfl (am_mth_of rfl rfl ?_)
    refine am_s_aload_n rfl dc193_0.1.1.1 ?_
    refine am_x_getI (x := I 163 4) dc193_0.1.1.2 rfl rfl (Or.inl rfl) rfl ?_
    refine am_s_iconst am_ccm1 dc193_0.1.2.1 ?_
    refine am_s_ic_ne dc193_0.1.2.2 rfl (fun c2 => ?_) (fun c2 => ?_)
    · refine am_s_iconst am_cc0 dc193_0.2.2.1 ?_
      refine am_s_zreturn dc193_0.2.2.2 rfl (by decide) (am_bkI ?_)
      refine am_s_if_ne dc212_7.1.1.2 rfl (fun z => absurd z (by decide)) (fun _ => ?_)
      refine am_s_iconst am_cc0 dc212_7.1.2.1 ?_
      exact am_s_ireturn dc212_7.1.2.2 rfl ((vi_f (vi_t q c1) c2))
    · refine am_s_iconst am_cc1 dc193_0.2.1.1 ?_
      refine am_s_goto rfl dc193_0.2.1.2 ?_
      refine am_s_zreturn dc193_0.2.2.2 rfl (by decide) (am_bkI ?_)
      refine am_s_if_ne dc212_7.1.1.2 rfl (fun _ => ?_) (fun z => absurd z (by decide))
      refine am_s_aload_n rfl dc212_7.2.1.1 ?_
      refine am_s_dup rfl dc212_7.2.1.2 ?_
      refine am_x_getI (x := I 163 4) dc212_7.2.2.1 rfl rfl (Or.inl rfl) rfl ?_
      refine am_s_iconst am_cc1 dc212_7.2.2.2 ?_
      refine am_s_iadd dc212_8.1.1 ?_
      refine am_s_putI dc212_8.1.2 rfl rfl rfl rfl ?_
      refine am_s_iload_n rfl dc212_8.2.1 ?_
      exact am_s_ireturn dc212_8.2.2 rfl ((vi_t (vi_t q c1) (Decidable.not_not.mp c2)))
  · refine am_s_return dc194_0.2.1.1 rfl (am_bkV ?_)
    refine am_s_aload_n rfl dc212_6.2.2.2 ?_
    refine am_s_virtual true dc212_7.1.1.1 rfl (by decide) rfl rfl rfl (am_mth_of rfl rfl ?_)
    refine am_s_aload_n rfl dc193_0.1.1.1 ?_
    refine am_x_getI (x := I 163 5) dc193_0.1.1.2 rfl rfl (Or.inl rfl) rfl ?_
    refine am_s_iconst am_ccm1 dc193_0.1.2.1 ?_
    refine am_s_ic_ne dc193_0.1.2.2 rfl (fun _ => ?_) (fun z => absurd c1 z)
    refine am_s_iconst am_cc0 dc193_0.2.2.1 ?_
    refine am_s_zreturn dc193_0.2.2.2 rfl (by decide) (am_bkI ?_)
    refine am_s_if_ne dc212_7.1.1.2 rfl (fun z => absurd z (by decide)) (fun _ => ?_)
    refine am_s_iconst am_cc0 dc212_7.1.2.1 ?_
    exact am_s_ireturn dc212_7.1.2.2 rfl ((vi_f q c1))
-- readWord ()V
theorem v213_0 {sc : Option (Nat × (Nat → Int32))} {d k n : Nat} {P : am_O → Prop} {I : am_I} {J : am_J} {Pf : am_R} (hp : am_PF Pf)  (q : (am_mth d 202 [.ref 163, .int 39] (am_SH, I, J, Pf) (am_af sc d 213 3 [some (.ref 163)] [.int 39, .ref 163] [] (am_SH, I, J, Pf) k n true P))) : am_go sc d 213 (0, [some (.ref 163)], [], (am_SH, I, J, Pf), k, n) P := by
  refine am_s_aload_n rfl dc213_0.1.1.1 ?_
  refine am_s_bipush am_cb39 dc213_0.1.1.2 ?_
  exact am_s_virtual true dc213_0.1.2.1 rfl (by decide) rfl rfl rfl (q)
theorem v213_21 {sc : Option (Nat × (Nat → Int32))} {d k n : Nat} {P : am_O → Prop} {I : am_I} {J : am_J} {Pf : am_R} (hp : am_PF Pf)  (q : (if (I 163 5) = (-1) then (if (I 163 3) ≤ (I 163 4) then (am_mth (d + 1) 212 [.ref 163, .int 1] (am_SH, I, J, Pf) (am_af sc (d + 1) 213 47 [some (.ref 163)] [.int 1, .ref 163, .int (I 163 14), .ref 168] [.int (I 163 14), .ref 168] (am_SH, I, J, Pf) k n true P)) else (am_in (I 163 4) 600 = true) ∧ (if (I 165 (Int32.toNatClampNeg (I 163 4))) = 39 then (am_go sc (d + 1) 213 (64, [some (.ref 163)], [], (am_SH, I, J, Pf), k, n) P) else (am_mth (d + 1) 212 [.ref 163, .int 1] (am_SH, I, J, Pf) (am_af sc (d + 1) 213 47 [some (.ref 163)] [.int 1, .ref 163, .int (I 163 14), .ref 168] [.int (I 163 14), .ref 168] (am_SH, I, J, Pf) k n true P)))) else (am_go sc (d + 1) 213 (64, [some (.ref 163)], [], (am_SH, I, J, Pf), k, n) P))) : am_go sc (d + 1) 213 (21, [some (.ref 163)], [], (am_SH, I, J, Pf), k, n) P := by
  refine am_s_aload_n rfl dc213_1.2.1.1 ?_
  refine am_s_virtual true dc213_1.2.1.2 rfl (by decide) rfl rfl rfl (am_mth_of rfl rfl ?_)
  refine am_s_aload_n rfl dc193_0.1.1.1 ?_
  refine am_x_getI (x := I 163 5) dc193_0.1.1.2 rfl rfl (Or.inl rfl) rfl ?_
  refine am_s_iconst am_ccm1 dc193_0.1.2.1 ?_
  refine am_s_ic_ne dc193_0.1.2.2 rfl (fun c1 => ?_) (fun c1 => ?_)
  · refine am_s_iconst am_cc0 dc193_0.2.2.1 ?_
    refine am_s_zreturn dc193_0.2.2.2 rfl (by decide) (am_bkI ?_)
    refine am_s_if_eq dc213_1.2.2.1 rfl (fun _ => ?_) (fun z => absurd z (by decide))
    exact (vi_f q c1)
  · refine am_s_iconst am_cc1 dc193_0.2.1.1 ?_
    refine am_s_goto rfl dc193_0.2.1.2 ?_
    refine am_s_zreturn dc193_0.2.2.2 rfl (by decide) (am_bkI ?_)
    refine am_s_if_eq dc213_1.2.2.1 rfl (fun z => absurd z (by decide)) (fun _ => ?_)
    refine am_s_aload_n rfl dc213_1.2.2.2 ?_
    refine am_s_virtual true dc213_2.1.1.1 rfl (by decide) rfl rfl rfl (am_mth_of rfl rfl ?_)
    refine am_s_aload_n rfl dc210_0.1.1.1 ?_
    refine am_x_getI (x := I 163 4) dc210_0.1.1.2 rfl rfl (Or.inl rfl) rfl ?_
    refine am_s_aload_n rfl dc210_0.1.2.1 ?_
    refine am_x_getI (x := I 163 3) dc210_0.1.2.2 rfl rfl (Or.inl rfl) rfl ?_
    refine am_s_ic_ge dc210_0.2.1.1 rfl (fun c2 => ?_) (fun c2 => ?_)
    · refine am_s_iconst am_cc0 dc210_1.2.2.1 ?_
      refine am_s_ireturn dc210_1.2.2.2 rfl (am_bkI ?_)
      refine am_s_bipush am_cb39 dc213_2.1.1.2 ?_
      refine am_s_ic_eq dc213_2.1.2.1 rfl (fun z => absurd z (by decide)) (fun _ => ?_)
      refine am_s_aload_n rfl dc213_2.1.2.2 ?_
      refine am_s_getR (r := 168) dc213_2.2.1.1 rfl rfl rfl (hp _ _ _ rfl) ?_
      refine am_s_aload_n rfl dc213_2.2.1.2 ?_
      refine am_x_getI (x := I 163 14) dc213_2.2.2.1 rfl rfl (Or.inl rfl) rfl ?_
      refine am_s_aload_n rfl dc213_2.2.2.2 ?_
      refine am_s_iconst am_cc1 dc213_3.1.1.1 ?_
      exact am_s_virtual true dc213_3.1.1.2 rfl (by decide) rfl rfl rfl ((vi_t (vi_t q (Decidable.not_not.mp c1)) c2))
    · refine am_s_aload_n rfl dc210_0.2.1.2 ?_
      refine am_s_getR (r := 165) dc210_0.2.2.1 rfl rfl rfl (hp _ _ _ rfl) ?_
      refine am_s_aload_n rfl dc210_0.2.2.2 ?_
      refine am_x_getI (x := I 163 4) dc210_1.1.1 rfl rfl (Or.inl rfl) rfl ?_
      refine am_x_iaload (x := I 165 (Int32.toNatClampNeg (I 163 4))) dc210_1.1.2 rfl ((vi_f (vi_t q (Decidable.not_not.mp c1)) c2).1) rfl rfl ?_
      refine am_s_goto rfl dc210_1.2.1 ?_
      refine am_s_ireturn dc210_1.2.2.2 rfl (am_bkI ?_)
      refine am_s_bipush am_cb39 dc213_2.1.1.2 ?_
      refine am_s_ic_eq dc213_2.1.2.1 rfl (fun c3 => ?_) (fun c3 => ?_)
      · exact (vi_t (vi_f (vi_t q (Decidable.not_not.mp c1)) c2).2 c3)
      · refine am_s_aload_n rfl dc213_2.1.2.2 ?_
        refine am_s_getR (r := 168) dc213_2.2.1.1 rfl rfl rfl (hp _ _ _ rfl) ?_
        refine am_s_aload_n rfl dc213_2.2.1.2 ?_
        refine am_x_getI (x := I 163 14) dc213_2.2.2.1 rfl rfl (Or.inl rfl) rfl ?_
        refine am_s_aload_n rfl dc213_2.2.2.2 ?_
        refine am_s_iconst am_cc1 dc213_3.1.1.1 ?_
        exact am_s_virtual true dc213_3.1.1.2 rfl (by decide) rfl rfl rfl ((vi_f (vi_f (vi_t q (Decidable.not_not.mp c1)) c2).2 c3))
theorem v213_64 {sc : Option (Nat × (Nat → Int32))} {d k n : Nat} {P : am_O → Prop} {I : am_I} {J : am_J} {Pf : am_R} (hp : am_PF Pf)  (q : (if (I 163 5) = (-1) then (if (I 163 14) = 0 then (am_go sc (d + 1) 213 (95, [some (.ref 163)], [], (am_SH, am_u (am_u (am_u I 163 16 (I 163 4)) 163 5 (I 163 4)) 163 6 1, J, Pf), k, n) P) else (am_go sc (d + 1) 213 (95, [some (.ref 163)], [], (am_SH, am_u I 163 16 (I 163 4), J, Pf), k, n) P)) else (am_go sc (d + 1) 213 (95, [some (.ref 163)], [], (am_SH, am_u I 163 16 (I 163 4), J, Pf), k, n) P))) : am_go sc (d + 1) 213 (64, [some (.ref 163)], [], (am_SH, I, J, Pf), k, n) P := by
  refine am_s_aload_n rfl dc213_4.1.2.1 ?_
  refine am_s_aload_n rfl dc213_4.1.2.2 ?_
  refine am_x_getI (x := I 163 4) dc213_4.2.1.1 rfl rfl (Or.inl rfl) rfl ?_
  refine am_s_putI dc213_4.2.1.2 rfl rfl rfl rfl ?_
  refine am_s_aload_n rfl dc213_4.2.2.1 ?_
  refine am_s_virtual true dc213_4.2.2.2 rfl (by decide) rfl rfl rfl (am_mth_of rfl rfl ?_)
  refine am_s_aload_n rfl dc193_0.1.1.1 ?_
  refine am_x_getI (x := I 163 5) dc193_0.1.1.2 rfl rfl (Or.inl rfl) rfl ?_
  refine am_s_iconst am_ccm1 dc193_0.1.2.1 ?_
  refine am_s_ic_ne dc193_0.1.2.2 rfl (fun c1 => ?_) (fun c1 => ?_)
  · refine am_s_iconst am_cc0 dc193_0.2.2.1 ?_
    refine am_s_zreturn dc193_0.2.2.2 rfl (by decide) (am_bkI ?_)
    refine am_s_if_eq dc213_5.1.1.1 rfl (fun _ => ?_) (fun z => absurd z (by decide))
    exact (vi_f q c1)
  · refine am_s_iconst am_cc1 dc193_0.2.1.1 ?_
    refine am_s_goto rfl dc193_0.2.1.2 ?_
    refine am_s_zreturn dc193_0.2.2.2 rfl (by decide) (am_bkI ?_)
    refine am_s_if_eq dc213_5.1.1.1 rfl (fun z => absurd z (by decide)) (fun _ => ?_)
    refine am_s_aload_n rfl dc213_5.1.1.2 ?_
    refine am_x_getI (x := I 163 14) dc213_5.1.2.1 rfl rfl (Or.inl rfl) rfl ?_
    refine am_s_if_ne dc213_5.1.2.2 rfl (fun c2 => ?_) (fun c2 => ?_)
    · exact (vi_f (vi_t q (Decidable.not_not.mp c1)) c2)
    · refine am_s_aload_n rfl dc213_5.2.1.1 ?_
      refine am_s_iconst am_cc1 dc213_5.2.1.2 ?_
      refine am_s_aload_n rfl dc213_5.2.2.1 ?_
      refine am_x_getI (x := I 163 4) dc213_5.2.2.2 rfl rfl (Or.inl rfl) rfl ?_
      refine am_s_virtual true dc213_6.1.1.1 rfl (by decide) rfl rfl rfl (am_mth_of rfl rfl ?_)
      refine am_s_aload_n rfl dc194_0.1.1.1 ?_
      refine am_x_getI (x := I 163 5) dc194_0.1.1.2 rfl rfl (Or.inl rfl) rfl ?_
      refine am_s_iconst am_ccm1 dc194_0.1.2.1 ?_
      refine am_s_ic_eq dc194_0.1.2.2 rfl (fun _ => ?_) (fun z => absurd z c1)
      refine am_s_aload_n rfl dc194_0.2.1.2 ?_
      refine am_s_iload_n rfl dc194_0.2.2.1 ?_
      refine am_s_putI dc194_0.2.2.2 rfl rfl rfl rfl ?_
      refine am_s_aload_n rfl dc194_1.1.1 ?_
      refine am_s_iload_n rfl dc194_1.1.2 ?_
      refine am_s_putI dc194_1.2.1 rfl rfl rfl rfl ?_
      refine am_s_return dc194_1.2.2 rfl (am_bkV ?_)
      exact (vi_t (vi_t q (Decidable.not_not.mp c1)) (Decidable.not_not.mp c2))
theorem v213_95 {sc : Option (Nat × (Nat → Int32))} {d k n : Nat} {P : am_O → Prop} {I : am_I} {J : am_J} {Pf : am_R} (hp : am_PF Pf)  (q : (if (I 163 5) = (-1) then (P (.inl none, (am_SH, am_u I 163 4 ((I 163 4) + 1), J, Pf), k, n)) else (P (.inl none, (am_SH, I, J, Pf), k, n)))) : am_go sc (d + 1) 213 (95, [some (.ref 163)], [], (am_SH, I, J, Pf), k, n) P := by
  refine am_s_aload_n rfl dc213_6.1.1.2 ?_
  refine am_s_virtual true dc213_6.1.2.1 rfl (by decide) rfl rfl rfl (am_mth_of rfl rfl ?_)
  refine am_s_aload_n rfl dc193_0.1.1.1 ?_
  refine am_x_getI (x := I 163 5) dc193_0.1.1.2 rfl rfl (Or.inl rfl) rfl ?_
  refine am_s_iconst am_ccm1 dc193_0.1.2.1 ?_
  refine am_s_ic_ne dc193_0.1.2.2 rfl (fun c1 => ?_) (fun c1 => ?_)
  · refine am_s_iconst am_cc0 dc193_0.2.2.1 ?_
    refine am_s_zreturn dc193_0.2.2.2 rfl (by decide) (am_bkI ?_)
    refine am_s_if_eq dc213_6.1.2.2 rfl (fun _ => ?_) (fun z => absurd z (by decide))
    exact am_s_return dc213_7.2.2 rfl ((vi_f q c1))
  · refine am_s_iconst am_cc1 dc193_0.2.1.1 ?_
    refine am_s_goto rfl dc193_0.2.1.2 ?_
    refine am_s_zreturn dc193_0.2.2.2 rfl (by decide) (am_bkI ?_)
    refine am_s_if_eq dc213_6.1.2.2 rfl (fun z => absurd z (by decide)) (fun _ => ?_)
    refine am_s_aload_n rfl dc213_6.2.1.1 ?_
    refine am_s_dup rfl dc213_6.2.1.2 ?_
    refine am_x_getI (x := I 163 4) dc213_6.2.2.1 rfl rfl (Or.inl rfl) rfl ?_
    refine am_s_iconst am_cc1 dc213_6.2.2.2 ?_
    refine am_s_iadd dc213_7.1 ?_
    refine am_s_putI dc213_7.2.1 rfl rfl rfl rfl ?_
    exact am_s_return dc213_7.2.2 rfl ((vi_t q (Decidable.not_not.mp c1)))
theorem v213_6 {sc : Option (Nat × (Nat → Int32))} {d k n : Nat} {P : am_O → Prop} {I : am_I} {J : am_J} {Pf : am_R} (hp : am_PF Pf)  (q : (am_go sc d 213 (21, [some (.ref 163)], [], (am_SH, am_u (am_u I 163 15 ((I 163 4) - 1)) 163 14 0, J, Pf), k, n) P)) : am_go sc d 213 (6, [some (.ref 163)], [], (am_SH, I, J, Pf), k, n) P := by
  refine am_s_aload_n rfl dc213_0.1.2.2 ?_
  refine am_s_aload_n rfl dc213_0.2.1.1 ?_
  refine am_x_getI (x := I 163 4) dc213_0.2.1.2 rfl rfl (Or.inl rfl) rfl ?_
  refine am_s_iconst am_cc1 dc213_0.2.2.1 ?_
  refine am_s_isub dc213_0.2.2.2 ?_
  refine am_s_putI dc213_1.1.1.1 rfl rfl rfl rfl ?_
  refine am_s_aload_n rfl dc213_1.1.1.2 ?_
  refine am_s_iconst am_cc0 dc213_1.1.2.1 ?_
  refine am_s_putI dc213_1.1.2.2 rfl rfl rfl rfl ?_
  exact q
theorem v213_50 {sc : Option (Nat × (Nat → Int32))} {d k n : Nat} {P : am_O → Prop} {I : am_I} {J : am_J} {Pf : am_R} (hp : am_PF Pf) {s1 : Int32} {s2 : Int32} (q : (am_in s1 600 = true) ∧ (am_go sc d 213 (21, [some (.ref 163)], [], (am_SH, am_u (am_u I 168 (Int32.toNatClampNeg s1) s2) 163 14 ((I 163 14) + 1), J, Pf), k, n) P)) : am_go sc d 213 (50, [some (.ref 163)], [.int s2, .int s1, .ref 168], (am_SH, I, J, Pf), k, n) P := by
  refine am_s_iastore dc213_3.1.2.1 rfl (q.1) rfl ?_
  refine am_s_aload_n rfl dc213_3.1.2.2 ?_
  refine am_s_dup rfl dc213_3.2.1.1 ?_
  refine am_x_getI (x := I 163 14) dc213_3.2.1.2 rfl rfl (Or.inl rfl) rfl ?_
  refine am_s_iconst am_cc1 dc213_3.2.2.1 ?_
  refine am_s_iadd dc213_3.2.2.2 ?_
  refine am_s_putI dc213_4.1.1.1 rfl rfl rfl rfl ?_
  refine am_s_goto rfl dc213_4.1.1.2 ?_
  exact q.2
-- readShortWord ()V
theorem v214_0 {sc : Option (Nat × (Nat → Int32))} {d k n : Nat} {P : am_O → Prop} {I : am_I} {J : am_J} {Pf : am_R} (hp : am_PF Pf)  (q : (am_mth d 213 [.ref 163] (am_SH, I, J, Pf) (am_af sc d 214 1 [some (.ref 163)] [.ref 163] [] (am_SH, I, J, Pf) k n true P))) : am_go sc d 214 (0, [some (.ref 163)], [], (am_SH, I, J, Pf), k, n) P := by
  refine am_s_aload_n rfl dc214_0.1.1.1 ?_
  exact am_s_virtual true dc214_0.1.1.2 rfl (by decide) rfl rfl rfl (q)
theorem v214_4 {sc : Option (Nat × (Nat → Int32))} {d k n : Nat} {P : am_O → Prop} {I : am_I} {J : am_J} {Pf : am_R} (hp : am_PF Pf)  (q : (if (I 163 5) = (-1) then (if (I 163 14) ≤ 8 then (P (.inl none, (am_SH, I, J, Pf), k, n)) else (P (.inl none, (am_SH, am_u (am_u I 163 5 (I 163 16)) 163 6 2, J, Pf), k, n))) else (P (.inl none, (am_SH, I, J, Pf), k, n)))) : am_go sc (d + 1) 214 (4, [some (.ref 163)], [], (am_SH, I, J, Pf), k, n) P := by
  refine am_s_aload_n rfl dc214_0.1.2.1 ?_
  refine am_s_virtual true dc214_0.1.2.2 rfl (by decide) rfl rfl rfl (am_mth_of rfl rfl ?_)
  refine am_s_aload_n rfl dc193_0.1.1.1 ?_
  refine am_x_getI (x := I 163 5) dc193_0.1.1.2 rfl rfl (Or.inl rfl) rfl ?_
  refine am_s_iconst am_ccm1 dc193_0.1.2.1 ?_
  refine am_s_ic_ne dc193_0.1.2.2 rfl (fun c1 => ?_) (fun c1 => ?_)
  · refine am_s_iconst am_cc0 dc193_0.2.2.1 ?_
    refine am_s_zreturn dc193_0.2.2.2 rfl (by decide) (am_bkI ?_)
    refine am_s_if_eq dc214_0.2.1.1 rfl (fun _ => ?_) (fun z => absurd z (by decide))
    exact am_s_return dc214_1.2.2.2 rfl ((vi_f q c1))
  · refine am_s_iconst am_cc1 dc193_0.2.1.1 ?_
    refine am_s_goto rfl dc193_0.2.1.2 ?_
    refine am_s_zreturn dc193_0.2.2.2 rfl (by decide) (am_bkI ?_)
    refine am_s_if_eq dc214_0.2.1.1 rfl (fun z => absurd z (by decide)) (fun _ => ?_)
    refine am_s_aload_n rfl dc214_0.2.1.2 ?_
    refine am_x_getI (x := I 163 14) dc214_0.2.2.1 rfl rfl (Or.inl rfl) rfl ?_
    refine am_s_bipush am_cb8 dc214_0.2.2.2 ?_
    refine am_s_ic_le dc214_1.1.1 rfl (fun c2 => ?_) (fun c2 => ?_)
    · exact am_s_return dc214_1.2.2.2 rfl ((vi_t (vi_t q (Decidable.not_not.mp c1)) c2))
    · refine am_s_aload_n rfl dc214_1.1.2.1 ?_
      refine am_s_iconst am_cc2 dc214_1.1.2.2 ?_
      refine am_s_aload_n rfl dc214_1.2.1.1 ?_
      refine am_x_getI (x := I 163 16) dc214_1.2.1.2 rfl rfl (Or.inl rfl) rfl ?_
      refine am_s_virtual true dc214_1.2.2.1 rfl (by decide) rfl rfl rfl (am_mth_of rfl rfl ?_)
      refine am_s_aload_n rfl dc194_0.1.1.1 ?_
      refine am_x_getI (x := I 163 5) dc194_0.1.1.2 rfl rfl (Or.inl rfl) rfl ?_
      refine am_s_iconst am_ccm1 dc194_0.1.2.1 ?_
      refine am_s_ic_eq dc194_0.1.2.2 rfl (fun _ => ?_) (fun z => absurd z c1)
      refine am_s_aload_n rfl dc194_0.2.1.2 ?_
      refine am_s_iload_n rfl dc194_0.2.2.1 ?_
      refine am_s_putI dc194_0.2.2.2 rfl rfl rfl rfl ?_
      refine am_s_aload_n rfl dc194_1.1.1 ?_
      refine am_s_iload_n rfl dc194_1.1.2 ?_
      refine am_s_putI dc194_1.2.1 rfl rfl rfl rfl ?_
      refine am_s_return dc194_1.2.2 rfl (am_bkV ?_)
      exact am_s_return dc214_1.2.2.2 rfl ((vi_f (vi_t q (Decidable.not_not.mp c1)) c2))
-- laysSet (III)V
theorem v215_0 {sc : Option (Nat × (Nat → Int32))} {d k n : Nat} {P : am_O → Prop} {I : am_I} {J : am_J} {Pf : am_R} (hp : am_PF Pf) {x1 : Int32} {x2 : Int32} {x3 : Int32} (q : (P (.inl none, (am_SH, am_u (am_u (am_u I 163 17 x1) 163 18 x2) 163 19 x3, J, Pf), k, n))) : am_go sc d 215 (0, [some (.ref 163), some (.int x1), some (.int x2), some (.int x3)], [], (am_SH, I, J, Pf), k, n) P := by
  refine am_s_aload_n rfl dc215_0.1.1.1 ?_
  refine am_s_iload_n rfl dc215_0.1.1.2 ?_
  refine am_s_putI dc215_0.1.2.1 rfl rfl rfl rfl ?_
  refine am_s_aload_n rfl dc215_0.1.2.2 ?_
  refine am_s_iload_n rfl dc215_0.2.1.1 ?_
  refine am_s_putI dc215_0.2.1.2 rfl rfl rfl rfl ?_
  refine am_s_aload_n rfl dc215_0.2.2.1 ?_
  refine am_s_iload_n rfl dc215_0.2.2.2 ?_
  refine am_s_putI dc215_1.1 rfl rfl rfl rfl ?_
  exact am_s_return dc215_1.2 rfl (q)
-- adds (I)V
theorem v216_0 {sc : Option (Nat × (Nat → Int32))} {d k n : Nat} {P : am_O → Prop} {I : am_I} {J : am_J} {Pf : am_R} (hp : am_PF Pf) {x1 : Int32} {l2 : Option Value} (q : (if 32 ≤ (x1 - 32) then (if 64 ≤ (x1 - 32) then (P (.inl none, (am_SH, am_u I 163 19 ((I 163 19) ||| ((1 : Int32) <<< (((x1 - 32) - 64) &&& 31))), J, Pf), k, n)) else (P (.inl none, (am_SH, am_u I 163 18 ((I 163 18) ||| ((1 : Int32) <<< (((x1 - 32) - 32) &&& 31))), J, Pf), k, n))) else (P (.inl none, (am_SH, am_u I 163 17 ((I 163 17) ||| ((1 : Int32) <<< ((x1 - 32) &&& 31))), J, Pf), k, n)))) : am_go sc d 216 (0, [some (.ref 163), some (.int x1), l2], [], (am_SH, I, J, Pf), k, n) P := by
  refine am_s_iload_n rfl dc216_0.1.1.1 ?_
  refine am_s_bipush am_cb32 dc216_0.1.1.2 ?_
  refine am_s_isub dc216_0.1.2.1 ?_
  refine am_s_istore_n (ls' := [some (.ref 163), some (.int x1), some (.int (x1 - 32))]) rfl rfl dc216_0.1.2.2 ?_
  refine am_s_iload_n rfl dc216_0.2.1.1 ?_
  refine am_s_bipush am_cb32 dc216_0.2.1.2 ?_
  refine am_s_ic_ge dc216_0.2.2.1 rfl (fun c1 => ?_) (fun c1 => ?_)
  · refine am_s_iload_n rfl dc216_2.1.1.1 ?_
    refine am_s_bipush am_cb64 dc216_2.1.1.2 ?_
    refine am_s_ic_ge dc216_2.1.2.1 rfl (fun c2 => ?_) (fun c2 => ?_)
    · refine am_s_aload_n rfl dc216_3.2.2.1 ?_
      refine am_s_dup rfl dc216_3.2.2.2 ?_
      refine am_x_getI (x := I 163 19) dc216_4.1.1.1 rfl rfl (Or.inl rfl) rfl ?_
      refine am_s_iconst am_cc1 dc216_4.1.1.2 ?_
      refine am_s_iload_n rfl dc216_4.1.2.1 ?_
      refine am_s_bipush am_cb64 dc216_4.1.2.2 ?_
      refine am_s_isub dc216_4.2.1.1 ?_
      refine am_s_ishl dc216_4.2.1.2 ?_
      refine am_s_ior dc216_4.2.2.1 ?_
      refine am_s_putI dc216_4.2.2.2 rfl rfl rfl rfl ?_
      exact am_s_return dc216_5 rfl ((vi_t (vi_t q c1) c2))
    · refine am_s_aload_n rfl dc216_2.1.2.2 ?_
      refine am_s_dup rfl dc216_2.2.1.1 ?_
      refine am_x_getI (x := I 163 18) dc216_2.2.1.2 rfl rfl (Or.inl rfl) rfl ?_
      refine am_s_iconst am_cc1 dc216_2.2.2.1 ?_
      refine am_s_iload_n rfl dc216_2.2.2.2 ?_
      refine am_s_bipush am_cb32 dc216_3.1.1.1 ?_
      refine am_s_isub dc216_3.1.1.2 ?_
      refine am_s_ishl dc216_3.1.2.1 ?_
      refine am_s_ior dc216_3.1.2.2 ?_
      refine am_s_putI dc216_3.2.1.1 rfl rfl rfl rfl ?_
      refine am_s_goto rfl dc216_3.2.1.2 ?_
      exact am_s_return dc216_5 rfl ((vi_f (vi_t q c1) c2))
  · refine am_s_aload_n rfl dc216_0.2.2.2 ?_
    refine am_s_dup rfl dc216_1.1.1.1 ?_
    refine am_x_getI (x := I 163 17) dc216_1.1.1.2 rfl rfl (Or.inl rfl) rfl ?_
    refine am_s_iconst am_cc1 dc216_1.1.2.1 ?_
    refine am_s_iload_n rfl dc216_1.1.2.2 ?_
    refine am_s_ishl dc216_1.2.1.1 ?_
    refine am_s_ior dc216_1.2.1.2 ?_
    refine am_s_putI dc216_1.2.2.1 rfl rfl rfl rfl ?_
    refine am_s_goto rfl dc216_1.2.2.2 ?_
    exact am_s_return dc216_5 rfl ((vi_f q c1))
-- classHere ()I
theorem v217_0 {sc : Option (Nat × (Nat → Int32))} {d k n : Nat} {P : am_O → Prop} {I : am_I} {J : am_J} {Pf : am_R} (hp : am_PF Pf)  (q : (am_mth d 202 [.ref 163, .int 35] (am_SH, I, J, Pf) (am_af sc d 217 3 [some (.ref 163)] [.int 35, .ref 163] [] (am_SH, I, J, Pf) k n true P))) : am_go sc d 217 (0, [some (.ref 163)], [], (am_SH, I, J, Pf), k, n) P := by
  refine am_s_aload_n rfl dc217_0.1.1.1 ?_
  refine am_s_bipush am_cb35 dc217_0.1.1.2 ?_
  exact am_s_virtual true dc217_0.1.2.1 rfl (by decide) rfl rfl rfl (q)
theorem v217_6 {sc : Option (Nat × (Nat → Int32))} {d k n : Nat} {P : am_O → Prop} {I : am_I} {J : am_J} {Pf : am_R} (hp : am_PF Pf)  (q : (am_mth d 201 [.ref 163, .int 0, .int ((I 166 0) - 1)] (am_SH, I, J, Pf) (am_af sc d 217 16 [some (.ref 163)] [.int ((I 166 0) - 1), .int 0, .ref 163] [] (am_SH, I, J, Pf) k n true P))) : am_go sc d 217 (6, [some (.ref 163)], [], (am_SH, I, J, Pf), k, n) P := by
  refine am_s_aload_n rfl dc217_0.1.2.2 ?_
  refine am_s_iconst am_cc0 dc217_0.2.1.1 ?_
  refine am_s_aload_n rfl dc217_0.2.1.2 ?_
  refine am_s_getR (r := 166) dc217_0.2.2.1 rfl rfl rfl (hp _ _ _ rfl) ?_
  refine am_s_iconst am_cc0 dc217_0.2.2.2 ?_
  refine am_x_iaload (x := I 166 0) dc217_1.1.1 rfl (by decide +kernel) am_cN0 rfl ?_
  refine am_s_iconst am_cc1 dc217_1.1.2 ?_
  refine am_s_isub dc217_1.2.1 ?_
  exact am_s_virtual true dc217_1.2.2.1 rfl (by decide) rfl rfl rfl (q)
theorem v217_19 {sc : Option (Nat × (Nat → Int32))} {d k n : Nat} {P : am_O → Prop} {I : am_I} {J : am_J} {Pf : am_R} (hp : am_PF Pf) {l0 : Option Value} {s0 : Int32} (q : (P (.inl (some (.int s0)), (am_SH, I, J, Pf), k, n))) : am_go sc d 217 (19, [l0], [.int s0], (am_SH, I, J, Pf), k, n) P := by
  exact am_s_ireturn dc217_1.2.2.2 rfl (q)
-- readRange ()V
theorem v218_0 {sc : Option (Nat × (Nat → Int32))} {d k n : Nat} {P : am_O → Prop} {I : am_I} {J : am_J} {Pf : am_R} (hp : am_PF Pf) {l1 : Option Value} {l2 : Option Value} {l3 : Option Value} (q : (am_mth d 202 [.ref 163, .int 91] (am_SH, I, J, Pf) (am_af sc d 218 3 [some (.ref 163), l1, l2, l3] [.int 91, .ref 163] [] (am_SH, I, J, Pf) k n true P))) : am_go sc d 218 (0, [some (.ref 163), l1, l2, l3], [], (am_SH, I, J, Pf), k, n) P := by
  refine am_s_aload_n rfl dc218_0.1.1.1 ?_
  refine am_s_bipush am_cb91 dc218_0.1.1.2 ?_
  exact am_s_virtual true dc218_0.1.2.1 rfl (by decide) rfl rfl rfl (q)
theorem v218_13 {sc : Option (Nat × (Nat → Int32))} {d k n : Nat} {P : am_O → Prop} {I : am_I} {J : am_J} {Pf : am_R} (hp : am_PF Pf) {l1 : Option Value} {l2 : Option Value} {l3 : Option Value} (q : (if (I 163 5) = (-1) then (if (I 163 3) ≤ (I 163 4) then (am_mth (d + 1) 212 [.ref 163, .int 0] (am_SH, I, J, Pf) (am_af sc (d + 1) 218 31 [some (.ref 163), l1, l2, l3] [.int 0, .ref 163] [] (am_SH, I, J, Pf) k n true P)) else (am_in (I 163 4) 600 = true) ∧ (if (I 165 (Int32.toNatClampNeg (I 163 4))) = 93 then (am_go sc (d + 1) 218 (120, [some (.ref 163), l1, l2, l3], [], (am_SH, I, J, Pf), k, n) P) else (am_mth (d + 1) 212 [.ref 163, .int 0] (am_SH, I, J, Pf) (am_af sc (d + 1) 218 31 [some (.ref 163), l1, l2, l3] [.int 0, .ref 163] [] (am_SH, I, J, Pf) k n true P)))) else (am_go sc (d + 1) 218 (120, [some (.ref 163), l1, l2, l3], [], (am_SH, I, J, Pf), k, n) P))) : am_go sc (d + 1) 218 (13, [some (.ref 163), l1, l2, l3], [], (am_SH, I, J, Pf), k, n) P := by
  refine am_s_aload_n rfl dc218_1.1.1.1 ?_
  refine am_s_virtual true dc218_1.1.1.2 rfl (by decide) rfl rfl rfl (am_mth_of rfl rfl ?_)
  refine am_s_aload_n rfl dc193_0.1.1.1 ?_
  refine am_x_getI (x := I 163 5) dc193_0.1.1.2 rfl rfl (Or.inl rfl) rfl ?_
  refine am_s_iconst am_ccm1 dc193_0.1.2.1 ?_
  refine am_s_ic_ne dc193_0.1.2.2 rfl (fun c1 => ?_) (fun c1 => ?_)
  · refine am_s_iconst am_cc0 dc193_0.2.2.1 ?_
    refine am_s_zreturn dc193_0.2.2.2 rfl (by decide) (am_bkI ?_)
    refine am_s_if_eq dc218_1.1.2.1 rfl (fun _ => ?_) (fun z => absurd z (by decide))
    exact (vi_f q c1)
  · refine am_s_iconst am_cc1 dc193_0.2.1.1 ?_
    refine am_s_goto rfl dc193_0.2.1.2 ?_
    refine am_s_zreturn dc193_0.2.2.2 rfl (by decide) (am_bkI ?_)
    refine am_s_if_eq dc218_1.1.2.1 rfl (fun z => absurd z (by decide)) (fun _ => ?_)
    refine am_s_aload_n rfl dc218_1.1.2.2 ?_
    refine am_s_virtual true dc218_1.2.1.1 rfl (by decide) rfl rfl rfl (am_mth_of rfl rfl ?_)
    refine am_s_aload_n rfl dc210_0.1.1.1 ?_
    refine am_x_getI (x := I 163 4) dc210_0.1.1.2 rfl rfl (Or.inl rfl) rfl ?_
    refine am_s_aload_n rfl dc210_0.1.2.1 ?_
    refine am_x_getI (x := I 163 3) dc210_0.1.2.2 rfl rfl (Or.inl rfl) rfl ?_
    refine am_s_ic_ge dc210_0.2.1.1 rfl (fun c2 => ?_) (fun c2 => ?_)
    · refine am_s_iconst am_cc0 dc210_1.2.2.1 ?_
      refine am_s_ireturn dc210_1.2.2.2 rfl (am_bkI ?_)
      refine am_s_bipush am_cb93 dc218_1.2.1.2 ?_
      refine am_s_ic_eq dc218_1.2.2.1 rfl (fun z => absurd z (by decide)) (fun _ => ?_)
      refine am_s_aload_n rfl dc218_1.2.2.2 ?_
      refine am_s_iconst am_cc0 dc218_2.1.1.1 ?_
      exact am_s_virtual true dc218_2.1.1.2 rfl (by decide) rfl rfl rfl ((vi_t (vi_t q (Decidable.not_not.mp c1)) c2))
    · refine am_s_aload_n rfl dc210_0.2.1.2 ?_
      refine am_s_getR (r := 165) dc210_0.2.2.1 rfl rfl rfl (hp _ _ _ rfl) ?_
      refine am_s_aload_n rfl dc210_0.2.2.2 ?_
      refine am_x_getI (x := I 163 4) dc210_1.1.1 rfl rfl (Or.inl rfl) rfl ?_
      refine am_x_iaload (x := I 165 (Int32.toNatClampNeg (I 163 4))) dc210_1.1.2 rfl ((vi_f (vi_t q (Decidable.not_not.mp c1)) c2).1) rfl rfl ?_
      refine am_s_goto rfl dc210_1.2.1 ?_
      refine am_s_ireturn dc210_1.2.2.2 rfl (am_bkI ?_)
      refine am_s_bipush am_cb93 dc218_1.2.1.2 ?_
      refine am_s_ic_eq dc218_1.2.2.1 rfl (fun c3 => ?_) (fun c3 => ?_)
      · exact (vi_t (vi_f (vi_t q (Decidable.not_not.mp c1)) c2).2 c3)
      · refine am_s_aload_n rfl dc218_1.2.2.2 ?_
        refine am_s_iconst am_cc0 dc218_2.1.1.1 ?_
        exact am_s_virtual true dc218_2.1.1.2 rfl (by decide) rfl rfl rfl ((vi_f (vi_f (vi_t q (Decidable.not_not.mp c1)) c2).2 c3))
theorem v218_92 {sc : Option (Nat × (Nat → Int32))} {d k n : Nat} {P : am_O → Prop} {I : am_I} {J : am_J} {Pf : am_R} (hp : am_PF Pf) {x1 : Int32} {x2 : Int32} {l3 : Option Value} (q : (am_go sc d 218 (94, [some (.ref 163), some (.int x1), some (.int x2), some (.int x1)], [], (am_SH, I, J, Pf), k, n) P)) : am_go sc d 218 (92, [some (.ref 163), some (.int x1), some (.int x2), l3], [], (am_SH, I, J, Pf), k, n) P := by
  refine am_s_iload_n rfl dc218_6.1.2.2 ?_
  refine am_s_istore_n (ls' := [some (.ref 163), some (.int x1), some (.int x2), some (.int x1)]) rfl rfl dc218_6.2.1.1 ?_
  exact q
theorem v218_94 {sc : Option (Nat × (Nat → Int32))} {d k n : Nat} {P : am_O → Prop} {I : am_I} {J : am_J} {Pf : am_R} (hp : am_PF Pf) {l1 : Option Value} {x2 : Int32} {x3 : Int32} (q : (if x2 < x3 then (am_go sc (d + 1) 218 (13, [some (.ref 163), l1, some (.int x2), some (.int x3)], [], (am_SH, I, J, Pf), k, n) P) else (if (I 163 5) = (-1) then (if 32 ≤ (x3 - 32) then (if 64 ≤ (x3 - 32) then (am_go sc (d + 1) 218 (94, [some (.ref 163), l1, some (.int x2), some (.int (x3 + 1))], [], (am_SH, am_u I 163 19 ((I 163 19) ||| ((1 : Int32) <<< (((x3 - 32) - 64) &&& 31))), J, Pf), k, n) P) else (am_go sc (d + 1) 218 (94, [some (.ref 163), l1, some (.int x2), some (.int (x3 + 1))], [], (am_SH, am_u I 163 18 ((I 163 18) ||| ((1 : Int32) <<< (((x3 - 32) - 32) &&& 31))), J, Pf), k, n) P)) else (am_go sc (d + 1) 218 (94, [some (.ref 163), l1, some (.int x2), some (.int (x3 + 1))], [], (am_SH, am_u I 163 17 ((I 163 17) ||| ((1 : Int32) <<< ((x3 - 32) &&& 31))), J, Pf), k, n) P)) else (am_go sc (d + 1) 218 (13, [some (.ref 163), l1, some (.int x2), some (.int x3)], [], (am_SH, I, J, Pf), k, n) P)))) : am_go sc (d + 1) 218 (94, [some (.ref 163), l1, some (.int x2), some (.int x3)], [], (am_SH, I, J, Pf), k, n) P := by
  refine am_s_iload_n rfl dc218_6.2.1.2 ?_
  refine am_s_iload_n rfl dc218_6.2.2.1 ?_
  refine am_s_ic_gt dc218_6.2.2.2 rfl (fun c1 => ?_) (fun c1 => ?_)
  · refine am_s_goto rfl dc218_8.1.1.1 ?_
    exact (vi_t q c1)
  · refine am_s_aload_n rfl dc218_7.1.1.1 ?_
    refine am_s_virtual true dc218_7.1.1.2 rfl (by decide) rfl rfl rfl (am_mth_of rfl rfl ?_)
    refine am_s_aload_n rfl dc193_0.1.1.1 ?_
    refine am_x_getI (x := I 163 5) dc193_0.1.1.2 rfl rfl (Or.inl rfl) rfl ?_
    refine am_s_iconst am_ccm1 dc193_0.1.2.1 ?_
    refine am_s_ic_ne dc193_0.1.2.2 rfl (fun c2 => ?_) (fun c2 => ?_)
    · refine am_s_iconst am_cc0 dc193_0.2.2.1 ?_
      refine am_s_zreturn dc193_0.2.2.2 rfl (by decide) (am_bkI ?_)
      refine am_s_if_eq dc218_7.1.2.1 rfl (fun _ => ?_) (fun z => absurd z (by decide))
      refine am_s_goto rfl dc218_8.1.1.1 ?_
      exact (vi_f (vi_f q c1) c2)
    · refine am_s_iconst am_cc1 dc193_0.2.1.1 ?_
      refine am_s_goto rfl dc193_0.2.1.2 ?_
      refine am_s_zreturn dc193_0.2.2.2 rfl (by decide) (am_bkI ?_)
      refine am_s_if_eq dc218_7.1.2.1 rfl (fun z => absurd z (by decide)) (fun _ => ?_)
      refine am_s_aload_n rfl dc218_7.1.2.2 ?_
      refine am_s_iload_n rfl dc218_7.2.1.1 ?_
      refine am_s_virtual true dc218_7.2.1.2 rfl (by decide) rfl rfl rfl (am_mth_of rfl rfl ?_)
      refine am_s_iload_n rfl dc216_0.1.1.1 ?_
      refine am_s_bipush am_cb32 dc216_0.1.1.2 ?_
      refine am_s_isub dc216_0.1.2.1 ?_
      refine am_s_istore_n (ls' := [some (.ref 163), some (.int x3), some (.int (x3 - 32))]) rfl rfl dc216_0.1.2.2 ?_
      refine am_s_iload_n rfl dc216_0.2.1.1 ?_
      refine am_s_bipush am_cb32 dc216_0.2.1.2 ?_
      refine am_s_ic_ge dc216_0.2.2.1 rfl (fun c3 => ?_) (fun c3 => ?_)
      · refine am_s_iload_n rfl dc216_2.1.1.1 ?_
        refine am_s_bipush am_cb64 dc216_2.1.1.2 ?_
        refine am_s_ic_ge dc216_2.1.2.1 rfl (fun c4 => ?_) (fun c4 => ?_)
        · refine am_s_aload_n rfl dc216_3.2.2.1 ?_
          refine am_s_dup rfl dc216_3.2.2.2 ?_
          refine am_x_getI (x := I 163 19) dc216_4.1.1.1 rfl rfl (Or.inl rfl) rfl ?_
          refine am_s_iconst am_cc1 dc216_4.1.1.2 ?_
          refine am_s_iload_n rfl dc216_4.1.2.1 ?_
          refine am_s_bipush am_cb64 dc216_4.1.2.2 ?_
          refine am_s_isub dc216_4.2.1.1 ?_
          refine am_s_ishl dc216_4.2.1.2 ?_
          refine am_s_ior dc216_4.2.2.1 ?_
          refine am_s_putI dc216_4.2.2.2 rfl rfl rfl rfl ?_
          refine am_s_return dc216_5 rfl (am_bkV ?_)
          refine am_s_iinc (ls' := [some (.ref 163), l1, some (.int x2), some (.int (x3 + 1))]) am_cc1 rfl rfl dc218_7.2.2.1 ?_
          refine am_s_goto rfl dc218_7.2.2.2 ?_
          exact (vi_t (vi_t (vi_t (vi_f q c1) (Decidable.not_not.mp c2)) c3) c4)
        · refine am_s_aload_n rfl dc216_2.1.2.2 ?_
          refine am_s_dup rfl dc216_2.2.1.1 ?_
          refine am_x_getI (x := I 163 18) dc216_2.2.1.2 rfl rfl (Or.inl rfl) rfl ?_
          refine am_s_iconst am_cc1 dc216_2.2.2.1 ?_
          refine am_s_iload_n rfl dc216_2.2.2.2 ?_
          refine am_s_bipush am_cb32 dc216_3.1.1.1 ?_
          refine am_s_isub dc216_3.1.1.2 ?_
          refine am_s_ishl dc216_3.1.2.1 ?_
          refine am_s_ior dc216_3.1.2.2 ?_
          refine am_s_putI dc216_3.2.1.1 rfl rfl rfl rfl ?_
          refine am_s_goto rfl dc216_3.2.1.2 ?_
          refine am_s_return dc216_5 rfl (am_bkV ?_)
          refine am_s_iinc (ls' := [some (.ref 163), l1, some (.int x2), some (.int (x3 + 1))]) am_cc1 rfl rfl dc218_7.2.2.1 ?_
          refine am_s_goto rfl dc218_7.2.2.2 ?_
          exact (vi_f (vi_t (vi_t (vi_f q c1) (Decidable.not_not.mp c2)) c3) c4)
      · refine am_s_aload_n rfl dc216_0.2.2.2 ?_
        refine am_s_dup rfl dc216_1.1.1.1 ?_
        refine am_x_getI (x := I 163 17) dc216_1.1.1.2 rfl rfl (Or.inl rfl) rfl ?_
        refine am_s_iconst am_cc1 dc216_1.1.2.1 ?_
        refine am_s_iload_n rfl dc216_1.1.2.2 ?_
        refine am_s_ishl dc216_1.2.1.1 ?_
        refine am_s_ior dc216_1.2.1.2 ?_
        refine am_s_putI dc216_1.2.2.1 rfl rfl rfl rfl ?_
        refine am_s_goto rfl dc216_1.2.2.2 ?_
        refine am_s_return dc216_5 rfl (am_bkV ?_)
        refine am_s_iinc (ls' := [some (.ref 163), l1, some (.int x2), some (.int (x3 + 1))]) am_cc1 rfl rfl dc218_7.2.2.1 ?_
        refine am_s_goto rfl dc218_7.2.2.2 ?_
        exact (vi_f (vi_t (vi_f q c1) (Decidable.not_not.mp c2)) c3)
theorem v218_120 {sc : Option (Nat × (Nat → Int32))} {d k n : Nat} {P : am_O → Prop} {I : am_I} {J : am_J} {Pf : am_R} (hp : am_PF Pf) {l1 : Option Value} {l2 : Option Value} {l3 : Option Value} (q : (if (I 163 5) = (-1) then (P (.inl none, (am_SH, am_u I 163 4 ((I 163 4) + 1), J, Pf), k, n)) else (P (.inl none, (am_SH, I, J, Pf), k, n)))) : am_go sc (d + 1) 218 (120, [some (.ref 163), l1, l2, l3], [], (am_SH, I, J, Pf), k, n) P := by
  refine am_s_aload_n rfl dc218_8.1.1.2 ?_
  refine am_s_virtual true dc218_8.1.2.1 rfl (by decide) rfl rfl rfl (am_mth_of rfl rfl ?_)
  refine am_s_aload_n rfl dc193_0.1.1.1 ?_
  refine am_x_getI (x := I 163 5) dc193_0.1.1.2 rfl rfl (Or.inl rfl) rfl ?_
  refine am_s_iconst am_ccm1 dc193_0.1.2.1 ?_
  refine am_s_ic_ne dc193_0.1.2.2 rfl (fun c1 => ?_) (fun c1 => ?_)
  · refine am_s_iconst am_cc0 dc193_0.2.2.1 ?_
    refine am_s_zreturn dc193_0.2.2.2 rfl (by decide) (am_bkI ?_)
    refine am_s_if_eq dc218_8.1.2.2 rfl (fun _ => ?_) (fun z => absurd z (by decide))
    exact am_s_return dc218_9.2.2 rfl ((vi_f q c1))
  · refine am_s_iconst am_cc1 dc193_0.2.1.1 ?_
    refine am_s_goto rfl dc193_0.2.1.2 ?_
    refine am_s_zreturn dc193_0.2.2.2 rfl (by decide) (am_bkI ?_)
    refine am_s_if_eq dc218_8.1.2.2 rfl (fun z => absurd z (by decide)) (fun _ => ?_)
    refine am_s_aload_n rfl dc218_8.2.1.1 ?_
    refine am_s_dup rfl dc218_8.2.1.2 ?_
    refine am_x_getI (x := I 163 4) dc218_8.2.2.1 rfl rfl (Or.inl rfl) rfl ?_
    refine am_s_iconst am_cc1 dc218_8.2.2.2 ?_
    refine am_s_iadd dc218_9.1 ?_
    refine am_s_putI dc218_9.2.1 rfl rfl rfl rfl ?_
    exact am_s_return dc218_9.2.2 rfl ((vi_t q (Decidable.not_not.mp c1)))
theorem v218_6 {sc : Option (Nat × (Nat → Int32))} {d k n : Nat} {P : am_O → Prop} {I : am_I} {J : am_J} {Pf : am_R} (hp : am_PF Pf) {l1 : Option Value} {l2 : Option Value} {l3 : Option Value} (q : (am_go sc (d + 1) 218 (13, [some (.ref 163), l1, l2, l3], [], (am_SH, am_u (am_u (am_u I 163 17 0) 163 18 0) 163 19 0, J, Pf), k, n) P)) : am_go sc (d + 1) 218 (6, [some (.ref 163), l1, l2, l3], [], (am_SH, I, J, Pf), k, n) P := by
  refine am_s_aload_n rfl dc218_0.1.2.2 ?_
  refine am_s_iconst am_cc0 dc218_0.2.1.1 ?_
  refine am_s_iconst am_cc0 dc218_0.2.1.2 ?_
  refine am_s_iconst am_cc0 dc218_0.2.2.1 ?_
  refine am_s_virtual true dc218_0.2.2.2 rfl (by decide) rfl rfl rfl (am_mth_of rfl rfl ?_)
  refine am_s_aload_n rfl dc215_0.1.1.1 ?_
  refine am_s_iload_n rfl dc215_0.1.1.2 ?_
  refine am_s_putI dc215_0.1.2.1 rfl rfl rfl rfl ?_
  refine am_s_aload_n rfl dc215_0.1.2.2 ?_
  refine am_s_iload_n rfl dc215_0.2.1.1 ?_
  refine am_s_putI dc215_0.2.1.2 rfl rfl rfl rfl ?_
  refine am_s_aload_n rfl dc215_0.2.2.1 ?_
  refine am_s_iload_n rfl dc215_0.2.2.2 ?_
  refine am_s_putI dc215_1.1 rfl rfl rfl rfl ?_
  refine am_s_return dc215_1.2 rfl (am_bkV ?_)
  exact q
theorem v218_34 {sc : Option (Nat × (Nat → Int32))} {d k n : Nat} {P : am_O → Prop} {I : am_I} {J : am_J} {Pf : am_R} (hp : am_PF Pf) {l1 : Option Value} {l2 : Option Value} {l3 : Option Value} {s0 : Int32} (q : (if (I 163 5) = (-1) then (if (I 163 3) ≤ (I 163 4) then (am_go sc (d + 1) 218 (92, [some (.ref 163), some (.int s0), some (.int s0), l3], [], (am_SH, I, J, Pf), k, n) P) else (am_in (I 163 4) 600 = true) ∧ (if (I 165 (Int32.toNatClampNeg (I 163 4))) = 45 then (am_mth (d + 1) 212 [.ref 163, .int 0] (am_SH, am_u I 163 4 ((I 163 4) + 1), J, Pf) (am_af sc (d + 1) 218 70 [some (.ref 163), some (.int s0), some (.int s0), some (.int ((I 163 4) + 1))] [.int 0, .ref 163] [] (am_SH, am_u I 163 4 ((I 163 4) + 1), J, Pf) k n true P)) else (am_go sc (d + 1) 218 (92, [some (.ref 163), some (.int s0), some (.int s0), l3], [], (am_SH, I, J, Pf), k, n) P))) else (am_go sc (d + 1) 218 (92, [some (.ref 163), some (.int s0), some (.int s0), l3], [], (am_SH, I, J, Pf), k, n) P))) : am_go sc (d + 1) 218 (34, [some (.ref 163), l1, l2, l3], [.int s0], (am_SH, I, J, Pf), k, n) P := by
  refine am_s_istore_n (ls' := [some (.ref 163), some (.int s0), l2, l3]) rfl rfl dc218_2.1.2.1 ?_
  refine am_s_iload_n rfl dc218_2.1.2.2 ?_
  refine am_s_istore_n (ls' := [some (.ref 163), some (.int s0), some (.int s0), l3]) rfl rfl dc218_2.2.1.1 ?_
  refine am_s_aload_n rfl dc218_2.2.1.2 ?_
  refine am_s_virtual true dc218_2.2.2.1 rfl (by decide) rfl rfl rfl (am_mth_of rfl rfl ?_)
  refine am_s_aload_n rfl dc193_0.1.1.1 ?_
  refine am_x_getI (x := I 163 5) dc193_0.1.1.2 rfl rfl (Or.inl rfl) rfl ?_
  refine am_s_iconst am_ccm1 dc193_0.1.2.1 ?_
  refine am_s_ic_ne dc193_0.1.2.2 rfl (fun c1 => ?_) (fun c1 => ?_)
  · refine am_s_iconst am_cc0 dc193_0.2.2.1 ?_
    refine am_s_zreturn dc193_0.2.2.2 rfl (by decide) (am_bkI ?_)
    refine am_s_if_eq dc218_2.2.2.2 rfl (fun _ => ?_) (fun z => absurd z (by decide))
    exact (vi_f q c1)
  · refine am_s_iconst am_cc1 dc193_0.2.1.1 ?_
    refine am_s_goto rfl dc193_0.2.1.2 ?_
    refine am_s_zreturn dc193_0.2.2.2 rfl (by decide) (am_bkI ?_)
    refine am_s_if_eq dc218_2.2.2.2 rfl (fun z => absurd z (by decide)) (fun _ => ?_)
    refine am_s_aload_n rfl dc218_3.1.1.1 ?_
    refine am_s_virtual true dc218_3.1.1.2 rfl (by decide) rfl rfl rfl (am_mth_of rfl rfl ?_)
    refine am_s_aload_n rfl dc210_0.1.1.1 ?_
    refine am_x_getI (x := I 163 4) dc210_0.1.1.2 rfl rfl (Or.inl rfl) rfl ?_
    refine am_s_aload_n rfl dc210_0.1.2.1 ?_
    refine am_x_getI (x := I 163 3) dc210_0.1.2.2 rfl rfl (Or.inl rfl) rfl ?_
    refine am_s_ic_ge dc210_0.2.1.1 rfl (fun c2 => ?_) (fun c2 => ?_)
    · refine am_s_iconst am_cc0 dc210_1.2.2.1 ?_
      refine am_s_ireturn dc210_1.2.2.2 rfl (am_bkI ?_)
      refine am_s_bipush am_cb45 dc218_3.1.2.1 ?_
      refine am_s_ic_ne dc218_3.1.2.2 rfl (fun _ => ?_) (fun z => absurd z (by decide))
      exact (vi_t (vi_t q (Decidable.not_not.mp c1)) c2)
    · refine am_s_aload_n rfl dc210_0.2.1.2 ?_
      refine am_s_getR (r := 165) dc210_0.2.2.1 rfl rfl rfl (hp _ _ _ rfl) ?_
      refine am_s_aload_n rfl dc210_0.2.2.2 ?_
      refine am_x_getI (x := I 163 4) dc210_1.1.1 rfl rfl (Or.inl rfl) rfl ?_
      refine am_x_iaload (x := I 165 (Int32.toNatClampNeg (I 163 4))) dc210_1.1.2 rfl ((vi_f (vi_t q (Decidable.not_not.mp c1)) c2).1) rfl rfl ?_
      refine am_s_goto rfl dc210_1.2.1 ?_
      refine am_s_ireturn dc210_1.2.2.2 rfl (am_bkI ?_)
      refine am_s_bipush am_cb45 dc218_3.1.2.1 ?_
      refine am_s_ic_ne dc218_3.1.2.2 rfl (fun c3 => ?_) (fun c3 => ?_)
      · exact (vi_f (vi_f (vi_t q (Decidable.not_not.mp c1)) c2).2 c3)
      · refine am_s_aload_n rfl dc218_3.2.1.1 ?_
        refine am_s_dup rfl dc218_3.2.1.2 ?_
        refine am_x_getI (x := I 163 4) dc218_3.2.2.1 rfl rfl (Or.inl rfl) rfl ?_
        refine am_s_iconst am_cc1 dc218_3.2.2.2 ?_
        refine am_s_iadd dc218_4.1.1.1 ?_
        refine am_s_putI dc218_4.1.1.2 rfl rfl rfl rfl ?_
        refine am_s_aload_n rfl dc218_4.1.2.1 ?_
        refine am_x_getI (x := (I 163 4) + 1) dc218_4.1.2.2 rfl rfl (Or.inl rfl) rfl ?_
        refine am_s_istore_n (ls' := [some (.ref 163), some (.int s0), some (.int s0), some (.int ((I 163 4) + 1))]) rfl rfl dc218_4.2.1.1 ?_
        refine am_s_aload_n rfl dc218_4.2.1.2 ?_
        refine am_s_iconst am_cc0 dc218_4.2.2.1 ?_
        exact am_s_virtual true dc218_4.2.2.2 rfl (by decide) rfl rfl rfl ((vi_t (vi_f (vi_t q (Decidable.not_not.mp c1)) c2).2 (Decidable.not_not.mp c3)))
theorem v218_73 {sc : Option (Nat × (Nat → Int32))} {d k n : Nat} {P : am_O → Prop} {I : am_I} {J : am_J} {Pf : am_R} (hp : am_PF Pf) {x1 : Int32} {l2 : Option Value} {x3 : Int32} {s0 : Int32} (q : (if (I 163 5) = (-1) then (if x1 ≤ s0 then (am_go sc (d + 1) 218 (92, [some (.ref 163), some (.int x1), some (.int s0), some (.int x3)], [], (am_SH, I, J, Pf), k, n) P) else (am_go sc (d + 1) 218 (92, [some (.ref 163), some (.int x1), some (.int s0), some (.int x3)], [], (am_SH, am_u (am_u I 163 5 x3) 163 6 2, J, Pf), k, n) P)) else (am_go sc (d + 1) 218 (92, [some (.ref 163), some (.int x1), some (.int s0), some (.int x3)], [], (am_SH, I, J, Pf), k, n) P))) : am_go sc (d + 1) 218 (73, [some (.ref 163), some (.int x1), l2, some (.int x3)], [.int s0], (am_SH, I, J, Pf), k, n) P := by
  refine am_s_istore_n (ls' := [some (.ref 163), some (.int x1), some (.int s0), some (.int x3)]) rfl rfl dc218_5.1.1.1 ?_
  refine am_s_aload_n rfl dc218_5.1.1.2 ?_
  refine am_s_virtual true dc218_5.1.2.1 rfl (by decide) rfl rfl rfl (am_mth_of rfl rfl ?_)
  refine am_s_aload_n rfl dc193_0.1.1.1 ?_
  refine am_x_getI (x := I 163 5) dc193_0.1.1.2 rfl rfl (Or.inl rfl) rfl ?_
  refine am_s_iconst am_ccm1 dc193_0.1.2.1 ?_
  refine am_s_ic_ne dc193_0.1.2.2 rfl (fun c1 => ?_) (fun c1 => ?_)
  · refine am_s_iconst am_cc0 dc193_0.2.2.1 ?_
    refine am_s_zreturn dc193_0.2.2.2 rfl (by decide) (am_bkI ?_)
    refine am_s_if_eq dc218_5.1.2.2 rfl (fun _ => ?_) (fun z => absurd z (by decide))
    exact (vi_f q c1)
  · refine am_s_iconst am_cc1 dc193_0.2.1.1 ?_
    refine am_s_goto rfl dc193_0.2.1.2 ?_
    refine am_s_zreturn dc193_0.2.2.2 rfl (by decide) (am_bkI ?_)
    refine am_s_if_eq dc218_5.1.2.2 rfl (fun z => absurd z (by decide)) (fun _ => ?_)
    refine am_s_iload_n rfl dc218_5.2.1.1 ?_
    refine am_s_iload_n rfl dc218_5.2.1.2 ?_
    refine am_s_ic_ge dc218_5.2.2.1 rfl (fun c2 => ?_) (fun c2 => ?_)
    · exact (vi_t (vi_t q (Decidable.not_not.mp c1)) c2)
    · refine am_s_aload_n rfl dc218_5.2.2.2 ?_
      refine am_s_iconst am_cc2 dc218_6.1.1.1 ?_
      refine am_s_iload_n rfl dc218_6.1.1.2 ?_
      refine am_s_virtual true dc218_6.1.2.1 rfl (by decide) rfl rfl rfl (am_mth_of rfl rfl ?_)
      refine am_s_aload_n rfl dc194_0.1.1.1 ?_
      refine am_x_getI (x := I 163 5) dc194_0.1.1.2 rfl rfl (Or.inl rfl) rfl ?_
      refine am_s_iconst am_ccm1 dc194_0.1.2.1 ?_
      refine am_s_ic_eq dc194_0.1.2.2 rfl (fun _ => ?_) (fun z => absurd z c1)
      refine am_s_aload_n rfl dc194_0.2.1.2 ?_
      refine am_s_iload_n rfl dc194_0.2.2.1 ?_
      refine am_s_putI dc194_0.2.2.2 rfl rfl rfl rfl ?_
      refine am_s_aload_n rfl dc194_1.1.1 ?_
      refine am_s_iload_n rfl dc194_1.1.2 ?_
      refine am_s_putI dc194_1.2.1 rfl rfl rfl rfl ?_
      refine am_s_return dc194_1.2.2 rfl (am_bkV ?_)
      exact (vi_f (vi_t q (Decidable.not_not.mp c1)) c2)
-- readUnitSet ()V
theorem v219_0 {sc : Option (Nat × (Nat → Int32))} {d k n : Nat} {P : am_O → Prop} {I : am_I} {J : am_J} {Pf : am_R} (hp : am_PF Pf) {l1 : Option Value} {l2 : Option Value} (q : (if (I 163 5) = (-1) then (am_mth (d + 1) 195 [.ref 163] (am_SH, I, J, Pf) (am_af sc (d + 1) 219 9 [some (.ref 163), l1, l2] [.ref 163] [] (am_SH, I, J, Pf) k n true P)) else (P (.inl none, (am_SH, I, J, Pf), k, n)))) : am_go sc (d + 1) 219 (0, [some (.ref 163), l1, l2], [], (am_SH, I, J, Pf), k, n) P := by
  refine am_s_aload_n rfl dc219_0.1.1.1 ?_
  refine am_s_virtual true dc219_0.1.1.2 rfl (by decide) rfl rfl rfl (am_mth_of rfl rfl ?_)
  refine am_s_aload_n rfl dc193_0.1.1.1 ?_
  refine am_x_getI (x := I 163 5) dc193_0.1.1.2 rfl rfl (Or.inl rfl) rfl ?_
  refine am_s_iconst am_ccm1 dc193_0.1.2.1 ?_
  refine am_s_ic_ne dc193_0.1.2.2 rfl (fun c1 => ?_) (fun c1 => ?_)
  · refine am_s_iconst am_cc0 dc193_0.2.2.1 ?_
    refine am_s_zreturn dc193_0.2.2.2 rfl (by decide) (am_bkI ?_)
    refine am_s_if_ne dc219_0.1.2.1 rfl (fun z => absurd z (by decide)) (fun _ => ?_)
    exact am_s_return dc219_0.1.2.2 rfl ((vi_f q c1))
  · refine am_s_iconst am_cc1 dc193_0.2.1.1 ?_
    refine am_s_goto rfl dc193_0.2.1.2 ?_
    refine am_s_zreturn dc193_0.2.2.2 rfl (by decide) (am_bkI ?_)
    refine am_s_if_ne dc219_0.1.2.1 rfl (fun _ => ?_) (fun z => absurd z (by decide))
    refine am_s_aload_n rfl dc219_0.2.1.1 ?_
    exact am_s_virtual true dc219_0.2.1.2 rfl (by decide) rfl rfl rfl ((vi_t q (Decidable.not_not.mp c1)))
theorem v219_12 {sc : Option (Nat × (Nat → Int32))} {d k n : Nat} {P : am_O → Prop} {I : am_I} {J : am_J} {Pf : am_R} (hp : am_PF Pf) {l1 : Option Value} {l2 : Option Value} {s0 : Int32} (q : (if s0 = 126 then (if (I 163 5) = (-1) then (if (I 163 7) = 6 then (if (I 163 4) = (-1) then (am_mth (d + 2) 219 [.ref 163] (am_SH, am_u (am_u (am_u (am_u I 163 5 (I 163 4)) 163 6 3) 163 4 ((I 163 4) + 1)) 163 7 ((I 163 7) + 1), J, Pf) (am_af sc (d + 2) 219 25 [some (.ref 163), some (.int s0), l2] [.ref 163] [] (am_SH, am_u (am_u (am_u (am_u I 163 5 (I 163 4)) 163 6 3) 163 4 ((I 163 4) + 1)) 163 7 ((I 163 7) + 1), J, Pf) k n true P)) else (am_mth (d + 2) 219 [.ref 163] (am_SH, am_u (am_u (am_u I 163 5 (I 163 4)) 163 6 3) 163 7 ((I 163 7) + 1), J, Pf) (am_af sc (d + 2) 219 25 [some (.ref 163), some (.int s0), l2] [.ref 163] [] (am_SH, am_u (am_u (am_u I 163 5 (I 163 4)) 163 6 3) 163 7 ((I 163 7) + 1), J, Pf) k n true P))) else (am_mth (d + 2) 219 [.ref 163] (am_SH, am_u (am_u I 163 4 ((I 163 4) + 1)) 163 7 ((I 163 7) + 1), J, Pf) (am_af sc (d + 2) 219 25 [some (.ref 163), some (.int s0), l2] [.ref 163] [] (am_SH, am_u (am_u I 163 4 ((I 163 4) + 1)) 163 7 ((I 163 7) + 1), J, Pf) k n true P))) else (am_mth (d + 2) 219 [.ref 163] (am_SH, am_u I 163 7 ((I 163 7) + 1), J, Pf) (am_af sc (d + 2) 219 25 [some (.ref 163), some (.int s0), l2] [.ref 163] [] (am_SH, am_u I 163 7 ((I 163 7) + 1), J, Pf) k n true P))) else (if s0 = 40 then (if (I 163 5) = (-1) then (if (I 163 7) = 6 then (if (I 163 4) = (-1) then (am_mth (d + 2) 220 [.ref 163] (am_SH, am_u (am_u (am_u (am_u I 163 5 (I 163 4)) 163 6 3) 163 4 ((I 163 4) + 1)) 163 7 ((I 163 7) + 1), J, Pf) (am_af sc (d + 2) 219 79 [some (.ref 163), some (.int s0), l2] [.ref 163] [] (am_SH, am_u (am_u (am_u (am_u I 163 5 (I 163 4)) 163 6 3) 163 4 ((I 163 4) + 1)) 163 7 ((I 163 7) + 1), J, Pf) k n true P)) else (am_mth (d + 2) 220 [.ref 163] (am_SH, am_u (am_u (am_u I 163 5 (I 163 4)) 163 6 3) 163 7 ((I 163 7) + 1), J, Pf) (am_af sc (d + 2) 219 79 [some (.ref 163), some (.int s0), l2] [.ref 163] [] (am_SH, am_u (am_u (am_u I 163 5 (I 163 4)) 163 6 3) 163 7 ((I 163 7) + 1), J, Pf) k n true P))) else (am_mth (d + 2) 220 [.ref 163] (am_SH, am_u (am_u I 163 4 ((I 163 4) + 1)) 163 7 ((I 163 7) + 1), J, Pf) (am_af sc (d + 2) 219 79 [some (.ref 163), some (.int s0), l2] [.ref 163] [] (am_SH, am_u (am_u I 163 4 ((I 163 4) + 1)) 163 7 ((I 163 7) + 1), J, Pf) k n true P))) else (am_mth (d + 2) 220 [.ref 163] (am_SH, am_u I 163 7 ((I 163 7) + 1), J, Pf) (am_af sc (d + 2) 219 79 [some (.ref 163), some (.int s0), l2] [.ref 163] [] (am_SH, am_u I 163 7 ((I 163 7) + 1), J, Pf) k n true P))) else (if s0 = 35 then (am_mth (d + 2) 217 [.ref 163] (am_SH, I, J, Pf) (am_af sc (d + 2) 219 111 [some (.ref 163), some (.int s0), l2] [.ref 163, .int 3, .int 8] [.int 3, .int 8] (am_SH, I, J, Pf) k n true P)) else (if s0 = 91 then (am_mth (d + 2) 218 [.ref 163] (am_SH, I, J, Pf) (am_af sc (d + 2) 219 153 [some (.ref 163), some (.int s0), l2] [.ref 163] [] (am_SH, I, J, Pf) k n true P)) else (if (I 163 5) = (-1) then (P (.inl none, (am_SH, am_u (am_u I 163 5 (I 163 4)) 163 6 1, J, Pf), k, n)) else (P (.inl none, (am_SH, I, J, Pf), k, n)))))))) : am_go sc (d + 2) 219 (12, [some (.ref 163), l1, l2], [.int s0], (am_SH, I, J, Pf), k, n) P := by
  refine am_s_istore_n (ls' := [some (.ref 163), some (.int s0), l2]) rfl rfl dc219_0.2.2.1 ?_
  refine am_s_iload_n rfl dc219_0.2.2.2 ?_
  refine am_s_bipush am_cb126 dc219_1.1.1.1 ?_
  refine am_s_ic_ne dc219_1.1.1.2 rfl (fun c1 => ?_) (fun c1 => ?_)
  · refine am_s_iload_n rfl dc219_4.2.2.1 ?_
    refine am_s_bipush am_cb40 dc219_4.2.2.2 ?_
    refine am_s_ic_ne dc219_5.1.1.1 rfl (fun c2 => ?_) (fun c2 => ?_)
    · refine am_s_iload_n rfl dc219_7.1.1.1 ?_
      refine am_s_bipush am_cb35 dc219_7.1.1.2 ?_
      refine am_s_ic_ne dc219_7.1.2.1 rfl (fun c3 => ?_) (fun c3 => ?_)
      · refine am_s_iload_n rfl dc219_10.2.1.2 ?_
        refine am_s_bipush am_cb91 dc219_10.2.2.1 ?_
        refine am_s_ic_ne dc219_10.2.2.2 rfl (fun c4 => ?_) (fun c4 => ?_)
        · refine am_s_aload_n rfl dc219_11.1.2.2 ?_
          refine am_s_iconst am_cc1 dc219_11.2.1.1 ?_
          refine am_s_aload_n rfl dc219_11.2.1.2 ?_
          refine am_x_getI (x := I 163 4) dc219_11.2.2.1 rfl rfl (Or.inl rfl) rfl ?_
          refine am_s_virtual true dc219_11.2.2.2 rfl (by decide) rfl rfl rfl (am_mth_of rfl rfl ?_)
          refine am_s_aload_n rfl dc194_0.1.1.1 ?_
          refine am_x_getI (x := I 163 5) dc194_0.1.1.2 rfl rfl (Or.inl rfl) rfl ?_
          refine am_s_iconst am_ccm1 dc194_0.1.2.1 ?_
          refine am_s_ic_eq dc194_0.1.2.2 rfl (fun c5 => ?_) (fun c5 => ?_)
          · refine am_s_aload_n rfl dc194_0.2.1.2 ?_
            refine am_s_iload_n rfl dc194_0.2.2.1 ?_
            refine am_s_putI dc194_0.2.2.2 rfl rfl rfl rfl ?_
            refine am_s_aload_n rfl dc194_1.1.1 ?_
            refine am_s_iload_n rfl dc194_1.1.2 ?_
            refine am_s_putI dc194_1.2.1 rfl rfl rfl rfl ?_
            refine am_s_return dc194_1.2.2 rfl (am_bkV ?_)
            exact am_s_return dc219_12 rfl ((vi_t (vi_f (vi_f (vi_f (vi_f q c1) c2) c3) c4) c5))
          · refine am_s_return dc194_0.2.1.1 rfl (am_bkV ?_)
            exact am_s_return dc219_12 rfl ((vi_f (vi_f (vi_f (vi_f (vi_f q c1) c2) c3) c4) c5))
        · refine am_s_aload_n rfl dc219_11.1.1.1 ?_
          exact am_s_virtual true dc219_11.1.1.2 rfl (by decide) rfl rfl rfl ((vi_t (vi_f (vi_f (vi_f q c1) c2) c3) (Decidable.not_not.mp c4)))
      · refine am_s_bipush am_cb8 dc219_7.1.2.2 ?_
        refine am_s_iconst am_cc3 dc219_7.2.1.1 ?_
        refine am_s_aload_n rfl dc219_7.2.1.2 ?_
        exact am_s_virtual true dc219_7.2.2.1 rfl (by decide) rfl rfl rfl ((vi_t (vi_f (vi_f q c1) c2) (Decidable.not_not.mp c3)))
    · refine am_s_aload_n rfl dc219_5.1.1.2 ?_
      refine am_s_iconst am_cc1 dc219_5.1.2.1 ?_
      refine am_s_virtual true dc219_5.1.2.2 rfl (by decide) rfl rfl rfl (am_mth_of rfl rfl ?_)
      refine am_s_aload_n rfl dc233_0.1.1.1 ?_
      refine am_s_virtual true dc233_0.1.1.2 rfl (by decide) rfl rfl rfl (am_mth_of rfl rfl ?_)
      refine am_s_aload_n rfl dc193_0.1.1.1 ?_
      refine am_x_getI (x := I 163 5) dc193_0.1.1.2 rfl rfl (Or.inl rfl) rfl ?_
      refine am_s_iconst am_ccm1 dc193_0.1.2.1 ?_
      refine am_s_ic_ne dc193_0.1.2.2 rfl (fun c3 => ?_) (fun c3 => ?_)
      · refine am_s_iconst am_cc0 dc193_0.2.2.1 ?_
        refine am_s_zreturn dc193_0.2.2.2 rfl (by decide) (am_bkI ?_)
        refine am_s_if_eq dc233_0.1.2.1 rfl (fun _ => ?_) (fun z => absurd z (by decide))
        refine am_s_aload_n rfl dc233_1.2.1.1 ?_
        refine am_s_virtual true dc233_1.2.1.2 rfl (by decide) rfl rfl rfl (am_mth_of rfl rfl ?_)
        refine am_s_aload_n rfl dc193_0.1.1.1 ?_
        refine am_x_getI (x := I 163 5) dc193_0.1.1.2 rfl rfl (Or.inl rfl) rfl ?_
        refine am_s_iconst am_ccm1 dc193_0.1.2.1 ?_
        refine am_s_ic_ne dc193_0.1.2.2 rfl (fun _ => ?_) (fun z => absurd c3 z)
        refine am_s_iconst am_cc0 dc193_0.2.2.1 ?_
        refine am_s_zreturn dc193_0.2.2.2 rfl (by decide) (am_bkI ?_)
        refine am_s_if_eq dc233_1.2.2.1 rfl (fun _ => ?_) (fun z => absurd z (by decide))
        refine am_s_aload_n rfl dc233_2.2.1.2 ?_
        refine am_s_dup rfl dc233_2.2.2.1 ?_
        refine am_x_getI (x := I 163 7) dc233_2.2.2.2 rfl rfl (Or.inl rfl) rfl ?_
        refine am_s_iconst am_cc1 dc233_3.1.1 ?_
        refine am_s_iadd dc233_3.1.2 ?_
        refine am_s_putI dc233_3.2.1 rfl rfl rfl rfl ?_
        refine am_s_return dc233_3.2.2 rfl (am_bkV ?_)
        refine am_s_aload_n rfl dc219_5.2.1.1 ?_
        exact am_s_virtual true dc219_5.2.1.2 rfl (by decide) rfl rfl rfl ((vi_f (vi_t (vi_f q c1) (Decidable.not_not.mp c2)) c3))
      · refine am_s_iconst am_cc1 dc193_0.2.1.1 ?_
        refine am_s_goto rfl dc193_0.2.1.2 ?_
        refine am_s_zreturn dc193_0.2.2.2 rfl (by decide) (am_bkI ?_)
        refine am_s_if_eq dc233_0.1.2.1 rfl (fun z => absurd z (by decide)) (fun _ => ?_)
        refine am_s_aload_n rfl dc233_0.1.2.2 ?_
        refine am_x_getI (x := I 163 7) dc233_0.2.1.1 rfl rfl (Or.inl rfl) rfl ?_
        refine am_s_bipush am_cb6 dc233_0.2.1.2 ?_
        refine am_s_ic_ne dc233_0.2.2.1 rfl (fun c4 => ?_) (fun c4 => ?_)
        · refine am_s_aload_n rfl dc233_1.2.1.1 ?_
          refine am_s_virtual true dc233_1.2.1.2 rfl (by decide) rfl rfl rfl (am_mth_of rfl rfl ?_)
          refine am_s_aload_n rfl dc193_0.1.1.1 ?_
          refine am_x_getI (x := I 163 5) dc193_0.1.1.2 rfl rfl (Or.inl rfl) rfl ?_
          refine am_s_iconst am_ccm1 dc193_0.1.2.1 ?_
          refine am_s_ic_ne dc193_0.1.2.2 rfl (fun z => absurd z c3) (fun _ => ?_)
          refine am_s_iconst am_cc1 dc193_0.2.1.1 ?_
          refine am_s_goto rfl dc193_0.2.1.2 ?_
          refine am_s_zreturn dc193_0.2.2.2 rfl (by decide) (am_bkI ?_)
          refine am_s_if_eq dc233_1.2.2.1 rfl (fun z => absurd z (by decide)) (fun _ => ?_)
          refine am_s_aload_n rfl dc233_1.2.2.2 ?_
          refine am_s_dup rfl dc233_2.1.1.1 ?_
          refine am_x_getI (x := I 163 4) dc233_2.1.1.2 rfl rfl (Or.inl rfl) rfl ?_
          refine am_s_iload_n rfl dc233_2.1.2.1 ?_
          refine am_s_iadd dc233_2.1.2.2 ?_
          refine am_s_putI dc233_2.2.1.1 rfl rfl rfl rfl ?_
          refine am_s_aload_n rfl dc233_2.2.1.2 ?_
          refine am_s_dup rfl dc233_2.2.2.1 ?_
          refine am_x_getI (x := I 163 7) dc233_2.2.2.2 rfl rfl (Or.inl rfl) rfl ?_
          refine am_s_iconst am_cc1 dc233_3.1.1 ?_
          refine am_s_iadd dc233_3.1.2 ?_
          refine am_s_putI dc233_3.2.1 rfl rfl rfl rfl ?_
          refine am_s_return dc233_3.2.2 rfl (am_bkV ?_)
          refine am_s_aload_n rfl dc219_5.2.1.1 ?_
          exact am_s_virtual true dc219_5.2.1.2 rfl (by decide) rfl rfl rfl ((vi_f (vi_t (vi_t (vi_f q c1) (Decidable.not_not.mp c2)) (Decidable.not_not.mp c3)) c4))
        · refine am_s_aload_n rfl dc233_0.2.2.2 ?_
          refine am_s_iconst am_cc3 dc233_1.1.1.1 ?_
          refine am_s_aload_n rfl dc233_1.1.1.2 ?_
          refine am_x_getI (x := I 163 4) dc233_1.1.2.1 rfl rfl (Or.inl rfl) rfl ?_
          refine am_s_virtual true dc233_1.1.2.2 rfl (by decide) rfl rfl rfl (am_mth_of rfl rfl ?_)
          refine am_s_aload_n rfl dc194_0.1.1.1 ?_
          refine am_x_getI (x := I 163 5) dc194_0.1.1.2 rfl rfl (Or.inl rfl) rfl ?_
          refine am_s_iconst am_ccm1 dc194_0.1.2.1 ?_
          refine am_s_ic_eq dc194_0.1.2.2 rfl (fun _ => ?_) (fun z => absurd z c3)
          refine am_s_aload_n rfl dc194_0.2.1.2 ?_
          refine am_s_iload_n rfl dc194_0.2.2.1 ?_
          refine am_s_putI dc194_0.2.2.2 rfl rfl rfl rfl ?_
          refine am_s_aload_n rfl dc194_1.1.1 ?_
          refine am_s_iload_n rfl dc194_1.1.2 ?_
          refine am_s_putI dc194_1.2.1 rfl rfl rfl rfl ?_
          refine am_s_return dc194_1.2.2 rfl (am_bkV ?_)
          refine am_s_aload_n rfl dc233_1.2.1.1 ?_
          refine am_s_virtual true dc233_1.2.1.2 rfl (by decide) rfl rfl rfl (am_mth_of rfl rfl ?_)
          refine am_s_aload_n rfl dc193_0.1.1.1 ?_
          refine am_x_getI (x := I 163 4) dc193_0.1.1.2 rfl rfl (Or.inl rfl) rfl ?_
          refine am_s_iconst am_ccm1 dc193_0.1.2.1 ?_
          refine am_s_ic_ne dc193_0.1.2.2 rfl (fun c5 => ?_) (fun c5 => ?_)
          · refine am_s_iconst am_cc0 dc193_0.2.2.1 ?_
            refine am_s_zreturn dc193_0.2.2.2 rfl (by decide) (am_bkI ?_)
            refine am_s_if_eq dc233_1.2.2.1 rfl (fun _ => ?_) (fun z => absurd z (by decide))
            refine am_s_aload_n rfl dc233_2.2.1.2 ?_
            refine am_s_dup rfl dc233_2.2.2.1 ?_
            refine am_x_getI (x := I 163 7) dc233_2.2.2.2 rfl rfl (Or.inl rfl) rfl ?_
            refine am_s_iconst am_cc1 dc233_3.1.1 ?_
            refine am_s_iadd dc233_3.1.2 ?_
            refine am_s_putI dc233_3.2.1 rfl rfl rfl rfl ?_
            refine am_s_return dc233_3.2.2 rfl (am_bkV ?_)
            refine am_s_aload_n rfl dc219_5.2.1.1 ?_
            exact am_s_virtual true dc219_5.2.1.2 rfl (by decide) rfl rfl rfl ((vi_f (vi_t (vi_t (vi_t (vi_f q c1) (Decidable.not_not.mp c2)) (Decidable.not_not.mp c3)) (Decidable.not_not.mp c4)) c5))
          · refine am_s_iconst am_cc1 dc193_0.2.1.1 ?_
            refine am_s_goto rfl dc193_0.2.1.2 ?_
            refine am_s_zreturn dc193_0.2.2.2 rfl (by decide) (am_bkI ?_)
            refine am_s_if_eq dc233_1.2.2.1 rfl (fun z => absurd z (by decide)) (fun _ => ?_)
            refine am_s_aload_n rfl dc233_1.2.2.2 ?_
            refine am_s_dup rfl dc233_2.1.1.1 ?_
            refine am_x_getI (x := I 163 4) dc233_2.1.1.2 rfl rfl (Or.inl rfl) rfl ?_
            refine am_s_iload_n rfl dc233_2.1.2.1 ?_
            refine am_s_iadd dc233_2.1.2.2 ?_
            refine am_s_putI dc233_2.2.1.1 rfl rfl rfl rfl ?_
            refine am_s_aload_n rfl dc233_2.2.1.2 ?_
            refine am_s_dup rfl dc233_2.2.2.1 ?_
            refine am_x_getI (x := I 163 7) dc233_2.2.2.2 rfl rfl (Or.inl rfl) rfl ?_
            refine am_s_iconst am_cc1 dc233_3.1.1 ?_
            refine am_s_iadd dc233_3.1.2 ?_
            refine am_s_putI dc233_3.2.1 rfl rfl rfl rfl ?_
            refine am_s_return dc233_3.2.2 rfl (am_bkV ?_)
            refine am_s_aload_n rfl dc219_5.2.1.1 ?_
            exact am_s_virtual true dc219_5.2.1.2 rfl (by decide) rfl rfl rfl ((vi_t (vi_t (vi_t (vi_t (vi_f q c1) (Decidable.not_not.mp c2)) (Decidable.not_not.mp c3)) (Decidable.not_not.mp c4)) (Decidable.not_not.mp c5)))
  · refine am_s_aload_n rfl dc219_1.1.2.1 ?_
    refine am_s_iconst am_cc1 dc219_1.1.2.2 ?_
    refine am_s_virtual true dc219_1.2.1.1 rfl (by decide) rfl rfl rfl (am_mth_of rfl rfl ?_)
    refine am_s_aload_n rfl dc233_0.1.1.1 ?_
    refine am_s_virtual true dc233_0.1.1.2 rfl (by decide) rfl rfl rfl (am_mth_of rfl rfl ?_)
    refine am_s_aload_n rfl dc193_0.1.1.1 ?_
    refine am_x_getI (x := I 163 5) dc193_0.1.1.2 rfl rfl (Or.inl rfl) rfl ?_
    refine am_s_iconst am_ccm1 dc193_0.1.2.1 ?_
    refine am_s_ic_ne dc193_0.1.2.2 rfl (fun c2 => ?_) (fun c2 => ?_)
    · refine am_s_iconst am_cc0 dc193_0.2.2.1 ?_
      refine am_s_zreturn dc193_0.2.2.2 rfl (by decide) (am_bkI ?_)
      refine am_s_if_eq dc233_0.1.2.1 rfl (fun _ => ?_) (fun z => absurd z (by decide))
      refine am_s_aload_n rfl dc233_1.2.1.1 ?_
      refine am_s_virtual true dc233_1.2.1.2 rfl (by decide) rfl rfl rfl (am_mth_of rfl rfl ?_)
      refine am_s_aload_n rfl dc193_0.1.1.1 ?_
      refine am_x_getI (x := I 163 5) dc193_0.1.1.2 rfl rfl (Or.inl rfl) rfl ?_
      refine am_s_iconst am_ccm1 dc193_0.1.2.1 ?_
      refine am_s_ic_ne dc193_0.1.2.2 rfl (fun _ => ?_) (fun z => absurd c2 z)
      refine am_s_iconst am_cc0 dc193_0.2.2.1 ?_
      refine am_s_zreturn dc193_0.2.2.2 rfl (by decide) (am_bkI ?_)
      refine am_s_if_eq dc233_1.2.2.1 rfl (fun _ => ?_) (fun z => absurd z (by decide))
      refine am_s_aload_n rfl dc233_2.2.1.2 ?_
      refine am_s_dup rfl dc233_2.2.2.1 ?_
      refine am_x_getI (x := I 163 7) dc233_2.2.2.2 rfl rfl (Or.inl rfl) rfl ?_
      refine am_s_iconst am_cc1 dc233_3.1.1 ?_
      refine am_s_iadd dc233_3.1.2 ?_
      refine am_s_putI dc233_3.2.1 rfl rfl rfl rfl ?_
      refine am_s_return dc233_3.2.2 rfl (am_bkV ?_)
      refine am_s_aload_n rfl dc219_1.2.1.2 ?_
      exact am_s_virtual true dc219_1.2.2.1 rfl (by decide) rfl rfl rfl ((vi_f (vi_t q (Decidable.not_not.mp c1)) c2))
    · refine am_s_iconst am_cc1 dc193_0.2.1.1 ?_
      refine am_s_goto rfl dc193_0.2.1.2 ?_
      refine am_s_zreturn dc193_0.2.2.2 rfl (by decide) (am_bkI ?_)
      refine am_s_if_eq dc233_0.1.2.1 rfl (fun z => absurd z (by decide)) (fun _ => ?_)
      refine am_s_aload_n rfl dc233_0.1.2.2 ?_
      refine am_x_getI (x := I 163 7) dc233_0.2.1.1 rfl rfl (Or.inl rfl) rfl ?_
      refine am_s_bipush am_cb6 dc233_0.2.1.2 ?_
      refine am_s_ic_ne dc233_0.2.2.1 rfl (fun c3 => ?_) (fun c3 => ?_)
      · refine am_s_aload_n rfl dc233_1.2.1.1 ?_
        refine am_s_virtual true dc233_1.2.1.2 rfl (by decide) rfl rfl rfl (am_mth_of rfl rfl ?_)
        refine am_s_aload_n rfl dc193_0.1.1.1 ?_
        refine am_x_getI (x := I 163 5) dc193_0.1.1.2 rfl rfl (Or.inl rfl) rfl ?_
        refine am_s_iconst am_ccm1 dc193_0.1.2.1 ?_
        refine am_s_ic_ne dc193_0.1.2.2 rfl (fun z => absurd z c2) (fun _ => ?_)
        refine am_s_iconst am_cc1 dc193_0.2.1.1 ?_
        refine am_s_goto rfl dc193_0.2.1.2 ?_
        refine am_s_zreturn dc193_0.2.2.2 rfl (by decide) (am_bkI ?_)
        refine am_s_if_eq dc233_1.2.2.1 rfl (fun z => absurd z (by decide)) (fun _ => ?_)
        refine am_s_aload_n rfl dc233_1.2.2.2 ?_
        refine am_s_dup rfl dc233_2.1.1.1 ?_
        refine am_x_getI (x := I 163 4) dc233_2.1.1.2 rfl rfl (Or.inl rfl) rfl ?_
        refine am_s_iload_n rfl dc233_2.1.2.1 ?_
        refine am_s_iadd dc233_2.1.2.2 ?_
        refine am_s_putI dc233_2.2.1.1 rfl rfl rfl rfl ?_
        refine am_s_aload_n rfl dc233_2.2.1.2 ?_
        refine am_s_dup rfl dc233_2.2.2.1 ?_
        refine am_x_getI (x := I 163 7) dc233_2.2.2.2 rfl rfl (Or.inl rfl) rfl ?_
        refine am_s_iconst am_cc1 dc233_3.1.1 ?_
        refine am_s_iadd dc233_3.1.2 ?_
        refine am_s_putI dc233_3.2.1 rfl rfl rfl rfl ?_
        refine am_s_return dc233_3.2.2 rfl (am_bkV ?_)
        refine am_s_aload_n rfl dc219_1.2.1.2 ?_
        exact am_s_virtual true dc219_1.2.2.1 rfl (by decide) rfl rfl rfl ((vi_f (vi_t (vi_t q (Decidable.not_not.mp c1)) (Decidable.not_not.mp c2)) c3))
      · refine am_s_aload_n rfl dc233_0.2.2.2 ?_
        refine am_s_iconst am_cc3 dc233_1.1.1.1 ?_
        refine am_s_aload_n rfl dc233_1.1.1.2 ?_
        refine am_x_getI (x := I 163 4) dc233_1.1.2.1 rfl rfl (Or.inl rfl) rfl ?_
        refine am_s_virtual true dc233_1.1.2.2 rfl (by decide) rfl rfl rfl (am_mth_of rfl rfl ?_)
        refine am_s_aload_n rfl dc194_0.1.1.1 ?_
        refine am_x_getI (x := I 163 5) dc194_0.1.1.2 rfl rfl (Or.inl rfl) rfl ?_
        refine am_s_iconst am_ccm1 dc194_0.1.2.1 ?_
        refine am_s_ic_eq dc194_0.1.2.2 rfl (fun _ => ?_) (fun z => absurd z c2)
        refine am_s_aload_n rfl dc194_0.2.1.2 ?_
        refine am_s_iload_n rfl dc194_0.2.2.1 ?_
        refine am_s_putI dc194_0.2.2.2 rfl rfl rfl rfl ?_
        refine am_s_aload_n rfl dc194_1.1.1 ?_
        refine am_s_iload_n rfl dc194_1.1.2 ?_
        refine am_s_putI dc194_1.2.1 rfl rfl rfl rfl ?_
        refine am_s_return dc194_1.2.2 rfl (am_bkV ?_)
        refine am_s_aload_n rfl dc233_1.2.1.1 ?_
        refine am_s_virtual true dc233_1.2.1.2 rfl (by decide) rfl rfl rfl (am_mth_of rfl rfl ?_)
        refine am_s_aload_n rfl dc193_0.1.1.1 ?_
        refine am_x_getI (x := I 163 4) dc193_0.1.1.2 rfl rfl (Or.inl rfl) rfl ?_
        refine am_s_iconst am_ccm1 dc193_0.1.2.1 ?_
        refine am_s_ic_ne dc193_0.1.2.2 rfl (fun c4 => ?_) (fun c4 => ?_)
        · refine am_s_iconst am_cc0 dc193_0.2.2.1 ?_
          refine am_s_zreturn dc193_0.2.2.2 rfl (by decide) (am_bkI ?_)
          refine am_s_if_eq dc233_1.2.2.1 rfl (fun _ => ?_) (fun z => absurd z (by decide))
          refine am_s_aload_n rfl dc233_2.2.1.2 ?_
          refine am_s_dup rfl dc233_2.2.2.1 ?_
          refine am_x_getI (x := I 163 7) dc233_2.2.2.2 rfl rfl (Or.inl rfl) rfl ?_
          refine am_s_iconst am_cc1 dc233_3.1.1 ?_
          refine am_s_iadd dc233_3.1.2 ?_
          refine am_s_putI dc233_3.2.1 rfl rfl rfl rfl ?_
          refine am_s_return dc233_3.2.2 rfl (am_bkV ?_)
          refine am_s_aload_n rfl dc219_1.2.1.2 ?_
          exact am_s_virtual true dc219_1.2.2.1 rfl (by decide) rfl rfl rfl ((vi_f (vi_t (vi_t (vi_t q (Decidable.not_not.mp c1)) (Decidable.not_not.mp c2)) (Decidable.not_not.mp c3)) c4))
        · refine am_s_iconst am_cc1 dc193_0.2.1.1 ?_
          refine am_s_goto rfl dc193_0.2.1.2 ?_
          refine am_s_zreturn dc193_0.2.2.2 rfl (by decide) (am_bkI ?_)
          refine am_s_if_eq dc233_1.2.2.1 rfl (fun z => absurd z (by decide)) (fun _ => ?_)
          refine am_s_aload_n rfl dc233_1.2.2.2 ?_
          refine am_s_dup rfl dc233_2.1.1.1 ?_
          refine am_x_getI (x := I 163 4) dc233_2.1.1.2 rfl rfl (Or.inl rfl) rfl ?_
          refine am_s_iload_n rfl dc233_2.1.2.1 ?_
          refine am_s_iadd dc233_2.1.2.2 ?_
          refine am_s_putI dc233_2.2.1.1 rfl rfl rfl rfl ?_
          refine am_s_aload_n rfl dc233_2.2.1.2 ?_
          refine am_s_dup rfl dc233_2.2.2.1 ?_
          refine am_x_getI (x := I 163 7) dc233_2.2.2.2 rfl rfl (Or.inl rfl) rfl ?_
          refine am_s_iconst am_cc1 dc233_3.1.1 ?_
          refine am_s_iadd dc233_3.1.2 ?_
          refine am_s_putI dc233_3.2.1 rfl rfl rfl rfl ?_
          refine am_s_return dc233_3.2.2 rfl (am_bkV ?_)
          refine am_s_aload_n rfl dc219_1.2.1.2 ?_
          exact am_s_virtual true dc219_1.2.2.1 rfl (by decide) rfl rfl rfl ((vi_t (vi_t (vi_t (vi_t q (Decidable.not_not.mp c1)) (Decidable.not_not.mp c2)) (Decidable.not_not.mp c3)) (Decidable.not_not.mp c4)))
theorem v219_28 {sc : Option (Nat × (Nat → Int32))} {d k n : Nat} {P : am_O → Prop} {I : am_I} {J : am_J} {Pf : am_R} (hp : am_PF Pf) {l1 : Option Value} {l2 : Option Value} (q : (P (.inl none, (am_SH, am_u (am_u (am_u (am_u I 163 7 ((I 163 7) - 1)) 163 17 ((I 163 17) ^^^ (-1))) 163 18 ((I 163 18) ^^^ (-1))) 163 19 (((I 163 19) ^^^ (-1)) &&& 2147483647), J, Pf), k, n))) : am_go sc (d + 1) 219 (28, [some (.ref 163), l1, l2], [], (am_SH, I, J, Pf), k, n) P := by
  refine am_s_aload_n rfl dc219_1.2.2.2 ?_
  refine am_s_dup rfl dc219_2.1.1.1 ?_
  refine am_x_getI (x := I 163 7) dc219_2.1.1.2 rfl rfl (Or.inl rfl) rfl ?_
  refine am_s_iconst am_cc1 dc219_2.1.2.1 ?_
  refine am_s_isub dc219_2.1.2.2 ?_
  refine am_s_putI dc219_2.2.1.1 rfl rfl rfl rfl ?_
  refine am_s_aload_n rfl dc219_2.2.1.2 ?_
  refine am_s_aload_n rfl dc219_2.2.2.1 ?_
  refine am_x_getI (x := I 163 17) dc219_2.2.2.2 rfl rfl (Or.inl rfl) rfl ?_
  refine am_s_iconst am_ccm1 dc219_3.1.1.1 ?_
  refine am_s_ixor dc219_3.1.1.2 ?_
  refine am_s_aload_n rfl dc219_3.1.2.1 ?_
  refine am_x_getI (x := I 163 18) dc219_3.1.2.2 rfl rfl (Or.inl rfl) rfl ?_
  refine am_s_iconst am_ccm1 dc219_3.2.1.1 ?_
  refine am_s_ixor dc219_3.2.1.2 ?_
  refine am_s_aload_n rfl dc219_3.2.2.1 ?_
  refine am_x_getI (x := I 163 19) dc219_3.2.2.2 rfl rfl (Or.inl rfl) rfl ?_
  refine am_s_iconst am_ccm1 dc219_4.1.1.1 ?_
  refine am_s_ixor dc219_4.1.1.2 ?_
  refine am_s_ldcw (x := 2147483647) dc219_4.1.2.1 rfl rfl rfl ?_
  refine am_s_iand dc219_4.1.2.2 ?_
  refine am_s_virtual true dc219_4.2.1.1 rfl (by decide) rfl rfl rfl (am_mth_of rfl rfl ?_)
  refine am_s_aload_n rfl dc215_0.1.1.1 ?_
  refine am_s_iload_n rfl dc215_0.1.1.2 ?_
  refine am_s_putI dc215_0.1.2.1 rfl rfl rfl rfl ?_
  refine am_s_aload_n rfl dc215_0.1.2.2 ?_
  refine am_s_iload_n rfl dc215_0.2.1.1 ?_
  refine am_s_putI dc215_0.2.1.2 rfl rfl rfl rfl ?_
  refine am_s_aload_n rfl dc215_0.2.2.1 ?_
  refine am_s_iload_n rfl dc215_0.2.2.2 ?_
  refine am_s_putI dc215_1.1 rfl rfl rfl rfl ?_
  refine am_s_return dc215_1.2 rfl (am_bkV ?_)
  refine am_s_goto rfl dc219_4.2.1.2 ?_
  exact am_s_return dc219_12 rfl (q)
theorem v219_82 {sc : Option (Nat × (Nat → Int32))} {d k n : Nat} {P : am_O → Prop} {I : am_I} {J : am_J} {Pf : am_R} (hp : am_PF Pf) {l1 : Option Value} {l2 : Option Value} (q : (am_mth d 202 [.ref 163, .int 41] (am_SH, I, J, Pf) (am_af sc d 219 85 [some (.ref 163), l1, l2] [.int 41, .ref 163] [] (am_SH, I, J, Pf) k n true P))) : am_go sc d 219 (82, [some (.ref 163), l1, l2], [], (am_SH, I, J, Pf), k, n) P := by
  refine am_s_aload_n rfl dc219_5.2.2.1 ?_
  refine am_s_bipush am_cb41 dc219_5.2.2.2 ?_
  exact am_s_virtual true dc219_6.1.1.1 rfl (by decide) rfl rfl rfl (q)
theorem v219_114 {sc : Option (Nat × (Nat → Int32))} {d k n : Nat} {P : am_O → Prop} {I : am_I} {J : am_J} {Pf : am_R} (hp : am_PF Pf) {l1 : Option Value} {l2 : Option Value} {s0 : Int32} {s1 : Int32} {s2 : Int32} (hl1 : am_k1 l1 = true) (q : (am_in (s0 + (s1 * s2)) 1040 = true) ∧ (am_in ((s0 + (s1 * s2)) + 1) 1040 = true) ∧ (am_in ((s0 + (s1 * s2)) + 2) 1040 = true) ∧ (P (.inl none, (am_SH, am_u (am_u (am_u I 163 17 (I 166 (Int32.toNatClampNeg (s0 + (s1 * s2))))) 163 18 (I 166 (Int32.toNatClampNeg ((s0 + (s1 * s2)) + 1)))) 163 19 (I 166 (Int32.toNatClampNeg ((s0 + (s1 * s2)) + 2))), J, Pf), k, n))) : am_go sc (d + 1) 219 (114, [some (.ref 163), l1, l2], [.int s2, .int s1, .int s0], (am_SH, I, J, Pf), k, n) P := by
  refine am_s_imul dc219_7.2.2.2 ?_
  refine am_s_iadd dc219_8.1.1.1 ?_
  refine am_s_istore_n (ls' := [some (.ref 163), l1, some (.int (s0 + (s1 * s2)))]) rfl (am_set1_k (am_kill_x (j := 1) rfl hl1) rfl) dc219_8.1.1.2 ?_
  refine am_s_aload_n rfl dc219_8.1.2.1 ?_
  refine am_s_aload_n rfl dc219_8.1.2.2 ?_
  refine am_s_getR (r := 166) dc219_8.2.1.1 rfl rfl rfl (hp _ _ _ rfl) ?_
  refine am_s_iload_n rfl dc219_8.2.1.2 ?_
  refine am_x_iaload (x := I 166 (Int32.toNatClampNeg (s0 + (s1 * s2)))) dc219_8.2.2.1 rfl (q.1) rfl rfl ?_
  refine am_s_aload_n rfl dc219_8.2.2.2 ?_
  refine am_s_getR (r := 166) dc219_9.1.1.1 rfl rfl rfl (hp _ _ _ rfl) ?_
  refine am_s_iload_n rfl dc219_9.1.1.2 ?_
  refine am_s_iconst am_cc1 dc219_9.1.2.1 ?_
  refine am_s_iadd dc219_9.1.2.2 ?_
  refine am_x_iaload (x := I 166 (Int32.toNatClampNeg ((s0 + (s1 * s2)) + 1))) dc219_9.2.1.1 rfl (q.2.1) rfl rfl ?_
  refine am_s_aload_n rfl dc219_9.2.1.2 ?_
  refine am_s_getR (r := 166) dc219_9.2.2.1 rfl rfl rfl (hp _ _ _ rfl) ?_
  refine am_s_iload_n rfl dc219_9.2.2.2 ?_
  refine am_s_iconst am_cc2 dc219_10.1.1.1 ?_
  refine am_s_iadd dc219_10.1.1.2 ?_
  refine am_x_iaload (x := I 166 (Int32.toNatClampNeg ((s0 + (s1 * s2)) + 2))) dc219_10.1.2.1 rfl (q.2.2.1) rfl rfl ?_
  refine am_s_virtual true dc219_10.1.2.2 rfl (by decide) rfl rfl rfl (am_mth_of rfl rfl ?_)
  refine am_s_aload_n rfl dc215_0.1.1.1 ?_
  refine am_s_iload_n rfl dc215_0.1.1.2 ?_
  refine am_s_putI dc215_0.1.2.1 rfl rfl rfl rfl ?_
  refine am_s_aload_n rfl dc215_0.1.2.2 ?_
  refine am_s_iload_n rfl dc215_0.2.1.1 ?_
  refine am_s_putI dc215_0.2.1.2 rfl rfl rfl rfl ?_
  refine am_s_aload_n rfl dc215_0.2.2.1 ?_
  refine am_s_iload_n rfl dc215_0.2.2.2 ?_
  refine am_s_putI dc215_1.1 rfl rfl rfl rfl ?_
  refine am_s_return dc215_1.2 rfl (am_bkV ?_)
  refine am_s_goto rfl dc219_10.2.1.1 ?_
  exact am_s_return dc219_12 rfl (q.2.2.2)
theorem v219_156 {sc : Option (Nat × (Nat → Int32))} {d k n : Nat} {P : am_O → Prop} {I : am_I} {J : am_J} {Pf : am_R} (hp : am_PF Pf) {l0 : Option Value} {l1 : Option Value} {l2 : Option Value} (q : (P (.inl none, (am_SH, I, J, Pf), k, n))) : am_go sc d 219 (156, [l0, l1, l2], [], (am_SH, I, J, Pf), k, n) P := by
  refine am_s_goto rfl dc219_11.1.2.1 ?_
  exact am_s_return dc219_12 rfl (q)
theorem v219_88 {sc : Option (Nat × (Nat → Int32))} {d k n : Nat} {P : am_O → Prop} {I : am_I} {J : am_J} {Pf : am_R} (hp : am_PF Pf) {l1 : Option Value} {l2 : Option Value} (q : (P (.inl none, (am_SH, am_u I 163 7 ((I 163 7) - 1), J, Pf), k, n))) : am_go sc d 219 (88, [some (.ref 163), l1, l2], [], (am_SH, I, J, Pf), k, n) P := by
  refine am_s_aload_n rfl dc219_6.1.1.2 ?_
  refine am_s_dup rfl dc219_6.1.2.1 ?_
  refine am_x_getI (x := I 163 7) dc219_6.1.2.2 rfl rfl (Or.inl rfl) rfl ?_
  refine am_s_iconst am_cc1 dc219_6.2.1.1 ?_
  refine am_s_isub dc219_6.2.1.2 ?_
  refine am_s_putI dc219_6.2.2.1 rfl rfl rfl rfl ?_
  refine am_s_goto rfl dc219_6.2.2.2 ?_
  exact am_s_return dc219_12 rfl (q)
-- readSet ()V
theorem v220_0 {sc : Option (Nat × (Nat → Int32))} {d k n : Nat} {P : am_O → Prop} {I : am_I} {J : am_J} {Pf : am_R} (hp : am_PF Pf) {l1 : Option Value} {l2 : Option Value} {l3 : Option Value} {l4 : Option Value} (q : (am_mth d 219 [.ref 163] (am_SH, I, J, Pf) (am_af sc d 220 1 [some (.ref 163), l1, l2, l3, l4] [.ref 163] [] (am_SH, I, J, Pf) k n true P))) : am_go sc d 220 (0, [some (.ref 163), l1, l2, l3, l4], [], (am_SH, I, J, Pf), k, n) P := by
  refine am_s_aload_n rfl dc220_0.1.1.1 ?_
  exact am_s_virtual true dc220_0.1.1.2 rfl (by decide) rfl rfl rfl (q)
theorem v220_4 {sc : Option (Nat × (Nat → Int32))} {d k n : Nat} {P : am_O → Prop} {I : am_I} {J : am_J} {Pf : am_R} (hp : am_PF Pf) {l1 : Option Value} {l2 : Option Value} {l3 : Option Value} {l4 : Option Value} (q : (if (I 163 5) = (-1) then (am_mth (d + 1) 195 [.ref 163] (am_SH, I, J, Pf) (am_af sc (d + 1) 220 12 [some (.ref 163), l1, l2, l3, l4] [.ref 163] [] (am_SH, I, J, Pf) k n true P)) else (P (.inl none, (am_SH, I, J, Pf), k, n)))) : am_go sc (d + 1) 220 (4, [some (.ref 163), l1, l2, l3, l4], [], (am_SH, I, J, Pf), k, n) P := by
  refine am_s_aload_n rfl dc220_0.1.2.1 ?_
  refine am_s_virtual true dc220_0.1.2.2 rfl (by decide) rfl rfl rfl (am_mth_of rfl rfl ?_)
  refine am_s_aload_n rfl dc193_0.1.1.1 ?_
  refine am_x_getI (x := I 163 5) dc193_0.1.1.2 rfl rfl (Or.inl rfl) rfl ?_
  refine am_s_iconst am_ccm1 dc193_0.1.2.1 ?_
  refine am_s_ic_ne dc193_0.1.2.2 rfl (fun c1 => ?_) (fun c1 => ?_)
  · refine am_s_iconst am_cc0 dc193_0.2.2.1 ?_
    refine am_s_zreturn dc193_0.2.2.2 rfl (by decide) (am_bkI ?_)
    refine am_s_if_eq dc220_0.2.1.1 rfl (fun _ => ?_) (fun z => absurd z (by decide))
    exact am_s_return dc220_11.2.2.2 rfl ((vi_f q c1))
  · refine am_s_iconst am_cc1 dc193_0.2.1.1 ?_
    refine am_s_goto rfl dc193_0.2.1.2 ?_
    refine am_s_zreturn dc193_0.2.2.2 rfl (by decide) (am_bkI ?_)
    refine am_s_if_eq dc220_0.2.1.1 rfl (fun z => absurd z (by decide)) (fun _ => ?_)
    refine am_s_aload_n rfl dc220_0.2.1.2 ?_
    exact am_s_virtual true dc220_0.2.2.1 rfl (by decide) rfl rfl rfl ((vi_t q (Decidable.not_not.mp c1)))
theorem v220_38 {sc : Option (Nat × (Nat → Int32))} {d k n : Nat} {P : am_O → Prop} {I : am_I} {J : am_J} {Pf : am_R} (hp : am_PF Pf) {l1 : Option Value} {l2 : Option Value} {l3 : Option Value} {l4 : Option Value} (q : (am_mth d 195 [.ref 163] (am_SH, I, J, Pf) (am_af sc d 220 39 [some (.ref 163), l1, l2, l3, l4] [.ref 163] [] (am_SH, I, J, Pf) k n true P))) : am_go sc d 220 (38, [some (.ref 163), l1, l2, l3, l4], [], (am_SH, I, J, Pf), k, n) P := by
  refine am_s_aload_n rfl dc220_2.1.1.2 ?_
  exact am_s_virtual true dc220_2.1.2.1 rfl (by decide) rfl rfl rfl (q)
theorem v220_15 {sc : Option (Nat × (Nat → Int32))} {d k n : Nat} {P : am_O → Prop} {I : am_I} {J : am_J} {Pf : am_R} (hp : am_PF Pf) {l1 : Option Value} {l2 : Option Value} {l3 : Option Value} {l4 : Option Value} {s0 : Int32} (q : (if s0 = 124 then (am_go sc d 220 (38, [some (.ref 163), l1, l2, l3, l4], [], (am_SH, I, J, Pf), k, n) P) else (am_mth d 195 [.ref 163] (am_SH, I, J, Pf) (am_af sc d 220 21 [some (.ref 163), l1, l2, l3, l4] [.ref 163] [] (am_SH, I, J, Pf) k n true P)))) : am_go sc d 220 (15, [some (.ref 163), l1, l2, l3, l4], [.int s0], (am_SH, I, J, Pf), k, n) P := by
  refine am_s_bipush am_cb124 dc220_0.2.2.2 ?_
  refine am_s_ic_eq dc220_1.1.1.1 rfl (fun c1 => ?_) (fun c1 => ?_)
  · exact (vi_t q c1)
  · refine am_s_aload_n rfl dc220_1.1.1.2 ?_
    exact am_s_virtual true dc220_1.1.2.1 rfl (by decide) rfl rfl rfl ((vi_f q c1))
theorem v220_42 {sc : Option (Nat × (Nat → Int32))} {d k n : Nat} {P : am_O → Prop} {I : am_I} {J : am_J} {Pf : am_R} (hp : am_PF Pf) {l1 : Option Value} {l2 : Option Value} {l3 : Option Value} {l4 : Option Value} {s0 : Int32} (q : (am_mth d 219 [.ref 163] (am_SH, am_u I 163 4 ((I 163 4) + 1), J, Pf) (am_af sc d 220 70 [some (.ref 163), some (.int s0), some (.int (I 163 17)), some (.int (I 163 18)), some (.int (I 163 19))] [.ref 163] [] (am_SH, am_u I 163 4 ((I 163 4) + 1), J, Pf) k n true P))) : am_go sc d 220 (42, [some (.ref 163), l1, l2, l3, l4], [.int s0], (am_SH, I, J, Pf), k, n) P := by
  refine am_s_istore_n (ls' := [some (.ref 163), some (.int s0), l2, l3, l4]) rfl rfl dc220_2.1.2.2 ?_
  refine am_s_aload_n rfl dc220_2.2.1.1 ?_
  refine am_x_getI (x := I 163 17) dc220_2.2.1.2 rfl rfl (Or.inl rfl) rfl ?_
  refine am_s_istore_n (ls' := [some (.ref 163), some (.int s0), some (.int (I 163 17)), l3, l4]) rfl rfl dc220_2.2.2.1 ?_
  refine am_s_aload_n rfl dc220_2.2.2.2 ?_
  refine am_x_getI (x := I 163 18) dc220_3.1.1.1 rfl rfl (Or.inl rfl) rfl ?_
  refine am_s_istore_n (ls' := [some (.ref 163), some (.int s0), some (.int (I 163 17)), some (.int (I 163 18)), l4]) rfl rfl dc220_3.1.1.2 ?_
  refine am_s_aload_n rfl dc220_3.1.2.1 ?_
  refine am_x_getI (x := I 163 19) dc220_3.1.2.2 rfl rfl (Or.inl rfl) rfl ?_
  refine am_s_istore (ls' := [some (.ref 163), some (.int s0), some (.int (I 163 17)), some (.int (I 163 18)), some (.int (I 163 19))]) rfl rfl dc220_3.2.1.1 ?_
  refine am_s_aload_n rfl dc220_3.2.1.2 ?_
  refine am_s_dup rfl dc220_3.2.2.1 ?_
  refine am_x_getI (x := I 163 4) dc220_3.2.2.2 rfl rfl (Or.inl rfl) rfl ?_
  refine am_s_iconst am_cc1 dc220_4.1.1.1 ?_
  refine am_s_iadd dc220_4.1.1.2 ?_
  refine am_s_putI dc220_4.1.2.1 rfl rfl rfl rfl ?_
  refine am_s_aload_n rfl dc220_4.1.2.2 ?_
  exact am_s_virtual true dc220_4.2.1.1 rfl (by decide) rfl rfl rfl (q)
theorem v220_24 {sc : Option (Nat × (Nat → Int32))} {d k n : Nat} {P : am_O → Prop} {I : am_I} {J : am_J} {Pf : am_R} (hp : am_PF Pf) {l1 : Option Value} {l2 : Option Value} {l3 : Option Value} {l4 : Option Value} {s0 : Int32} (q : (if s0 = 38 then (am_go sc d 220 (38, [some (.ref 163), l1, l2, l3, l4], [], (am_SH, I, J, Pf), k, n) P) else (am_mth d 195 [.ref 163] (am_SH, I, J, Pf) (am_af sc d 220 30 [some (.ref 163), l1, l2, l3, l4] [.ref 163] [] (am_SH, I, J, Pf) k n true P)))) : am_go sc d 220 (24, [some (.ref 163), l1, l2, l3, l4], [.int s0], (am_SH, I, J, Pf), k, n) P := by
  refine am_s_bipush am_cb38 dc220_1.1.2.2 ?_
  refine am_s_ic_eq dc220_1.2.1.1 rfl (fun c1 => ?_) (fun c1 => ?_)
  · exact (vi_t q c1)
  · refine am_s_aload_n rfl dc220_1.2.1.2 ?_
    exact am_s_virtual true dc220_1.2.2.1 rfl (by decide) rfl rfl rfl ((vi_f q c1))
theorem v220_73 {sc : Option (Nat × (Nat → Int32))} {d k n : Nat} {P : am_O → Prop} {I : am_I} {J : am_J} {Pf : am_R} (hp : am_PF Pf) {x1 : Int32} {x2 : Int32} {x3 : Int32} {x4 : Int32} (q : (if x1 = 124 then (am_go sc (d + 1) 220 (4, [some (.ref 163), some (.int x1), some (.int x2), some (.int x3), some (.int x4)], [], (am_SH, am_u (am_u (am_u I 163 17 (x2 ||| (I 163 17))) 163 18 (x3 ||| (I 163 18))) 163 19 (x4 ||| (I 163 19)), J, Pf), k, n) P) else (if x1 = 38 then (am_go sc (d + 1) 220 (4, [some (.ref 163), some (.int x1), some (.int x2), some (.int x3), some (.int x4)], [], (am_SH, am_u (am_u (am_u I 163 17 (x2 &&& (I 163 17))) 163 18 (x3 &&& (I 163 18))) 163 19 (x4 &&& (I 163 19)), J, Pf), k, n) P) else (am_go sc (d + 1) 220 (4, [some (.ref 163), some (.int x1), some (.int x2), some (.int x3), some (.int x4)], [], (am_SH, am_u (am_u (am_u I 163 17 (x2 &&& ((I 163 17) ^^^ (-1)))) 163 18 (x3 &&& ((I 163 18) ^^^ (-1)))) 163 19 (x4 &&& ((I 163 19) ^^^ (-1))), J, Pf), k, n) P)))) : am_go sc (d + 1) 220 (73, [some (.ref 163), some (.int x1), some (.int x2), some (.int x3), some (.int x4)], [], (am_SH, I, J, Pf), k, n) P := by
  refine am_s_iload_n rfl dc220_4.2.1.2 ?_
  refine am_s_bipush am_cb124 dc220_4.2.2.1 ?_
  refine am_s_ic_ne dc220_4.2.2.2 rfl (fun c1 => ?_) (fun c1 => ?_)
  · refine am_s_iload_n rfl dc220_6.2.2.2 ?_
    refine am_s_bipush am_cb38 dc220_7.1.1.1 ?_
    refine am_s_ic_ne dc220_7.1.1.2 rfl (fun c2 => ?_) (fun c2 => ?_)
    · refine am_s_aload_n rfl dc220_9.1.1.2 ?_
      refine am_s_iload_n rfl dc220_9.1.2.1 ?_
      refine am_s_aload_n rfl dc220_9.1.2.2 ?_
      refine am_x_getI (x := I 163 17) dc220_9.2.1.1 rfl rfl (Or.inl rfl) rfl ?_
      refine am_s_iconst am_ccm1 dc220_9.2.1.2 ?_
      refine am_s_ixor dc220_9.2.2.1 ?_
      refine am_s_iand dc220_9.2.2.2 ?_
      refine am_s_iload_n rfl dc220_10.1.1.1 ?_
      refine am_s_aload_n rfl dc220_10.1.1.2 ?_
      refine am_x_getI (x := I 163 18) dc220_10.1.2.1 rfl rfl (Or.inl rfl) rfl ?_
      refine am_s_iconst am_ccm1 dc220_10.1.2.2 ?_
      refine am_s_ixor dc220_10.2.1.1 ?_
      refine am_s_iand dc220_10.2.1.2 ?_
      refine am_s_iload rfl dc220_10.2.2.1 ?_
      refine am_s_aload_n rfl dc220_10.2.2.2 ?_
      refine am_x_getI (x := I 163 19) dc220_11.1.1 rfl rfl (Or.inl rfl) rfl ?_
      refine am_s_iconst am_ccm1 dc220_11.1.2.1 ?_
      refine am_s_ixor dc220_11.1.2.2 ?_
      refine am_s_iand dc220_11.2.1.1 ?_
      refine am_s_virtual true dc220_11.2.1.2 rfl (by decide) rfl rfl rfl (am_mth_of rfl rfl ?_)
      refine am_s_aload_n rfl dc215_0.1.1.1 ?_
      refine am_s_iload_n rfl dc215_0.1.1.2 ?_
      refine am_s_putI dc215_0.1.2.1 rfl rfl rfl rfl ?_
      refine am_s_aload_n rfl dc215_0.1.2.2 ?_
      refine am_s_iload_n rfl dc215_0.2.1.1 ?_
      refine am_s_putI dc215_0.2.1.2 rfl rfl rfl rfl ?_
      refine am_s_aload_n rfl dc215_0.2.2.1 ?_
      refine am_s_iload_n rfl dc215_0.2.2.2 ?_
      refine am_s_putI dc215_1.1 rfl rfl rfl rfl ?_
      refine am_s_return dc215_1.2 rfl (am_bkV ?_)
      refine am_s_goto rfl dc220_11.2.2.1 ?_
      exact (vi_f (vi_f q c1) c2)
    · refine am_s_aload_n rfl dc220_7.1.2.1 ?_
      refine am_s_iload_n rfl dc220_7.1.2.2 ?_
      refine am_s_aload_n rfl dc220_7.2.1.1 ?_
      refine am_x_getI (x := I 163 17) dc220_7.2.1.2 rfl rfl (Or.inl rfl) rfl ?_
      refine am_s_iand dc220_7.2.2.1 ?_
      refine am_s_iload_n rfl dc220_7.2.2.2 ?_
      refine am_s_aload_n rfl dc220_8.1.1.1 ?_
      refine am_x_getI (x := I 163 18) dc220_8.1.1.2 rfl rfl (Or.inl rfl) rfl ?_
      refine am_s_iand dc220_8.1.2.1 ?_
      refine am_s_iload rfl dc220_8.1.2.2 ?_
      refine am_s_aload_n rfl dc220_8.2.1.1 ?_
      refine am_x_getI (x := I 163 19) dc220_8.2.1.2 rfl rfl (Or.inl rfl) rfl ?_
      refine am_s_iand dc220_8.2.2.1 ?_
      refine am_s_virtual true dc220_8.2.2.2 rfl (by decide) rfl rfl rfl (am_mth_of rfl rfl ?_)
      refine am_s_aload_n rfl dc215_0.1.1.1 ?_
      refine am_s_iload_n rfl dc215_0.1.1.2 ?_
      refine am_s_putI dc215_0.1.2.1 rfl rfl rfl rfl ?_
      refine am_s_aload_n rfl dc215_0.1.2.2 ?_
      refine am_s_iload_n rfl dc215_0.2.1.1 ?_
      refine am_s_putI dc215_0.2.1.2 rfl rfl rfl rfl ?_
      refine am_s_aload_n rfl dc215_0.2.2.1 ?_
      refine am_s_iload_n rfl dc215_0.2.2.2 ?_
      refine am_s_putI dc215_1.1 rfl rfl rfl rfl ?_
      refine am_s_return dc215_1.2 rfl (am_bkV ?_)
      refine am_s_goto rfl dc220_9.1.1.1 ?_
      refine am_s_goto rfl dc220_11.2.2.1 ?_
      exact (vi_t (vi_f q c1) (Decidable.not_not.mp c2))
  · refine am_s_aload_n rfl dc220_5.1.1.1 ?_
    refine am_s_iload_n rfl dc220_5.1.1.2 ?_
    refine am_s_aload_n rfl dc220_5.1.2.1 ?_
    refine am_x_getI (x := I 163 17) dc220_5.1.2.2 rfl rfl (Or.inl rfl) rfl ?_
    refine am_s_ior dc220_5.2.1.1 ?_
    refine am_s_iload_n rfl dc220_5.2.1.2 ?_
    refine am_s_aload_n rfl dc220_5.2.2.1 ?_
    refine am_x_getI (x := I 163 18) dc220_5.2.2.2 rfl rfl (Or.inl rfl) rfl ?_
    refine am_s_ior dc220_6.1.1.1 ?_
    refine am_s_iload rfl dc220_6.1.1.2 ?_
    refine am_s_aload_n rfl dc220_6.1.2.1 ?_
    refine am_x_getI (x := I 163 19) dc220_6.1.2.2 rfl rfl (Or.inl rfl) rfl ?_
    refine am_s_ior dc220_6.2.1.1 ?_
    refine am_s_virtual true dc220_6.2.1.2 rfl (by decide) rfl rfl rfl (am_mth_of rfl rfl ?_)
    refine am_s_aload_n rfl dc215_0.1.1.1 ?_
    refine am_s_iload_n rfl dc215_0.1.1.2 ?_
    refine am_s_putI dc215_0.1.2.1 rfl rfl rfl rfl ?_
    refine am_s_aload_n rfl dc215_0.1.2.2 ?_
    refine am_s_iload_n rfl dc215_0.2.1.1 ?_
    refine am_s_putI dc215_0.2.1.2 rfl rfl rfl rfl ?_
    refine am_s_aload_n rfl dc215_0.2.2.1 ?_
    refine am_s_iload_n rfl dc215_0.2.2.2 ?_
    refine am_s_putI dc215_1.1 rfl rfl rfl rfl ?_
    refine am_s_return dc215_1.2 rfl (am_bkV ?_)
    refine am_s_goto rfl dc220_6.2.2.1 ?_
    refine am_s_goto rfl dc220_11.2.2.1 ?_
    exact (vi_t q (Decidable.not_not.mp c1))
theorem v220_33 {sc : Option (Nat × (Nat → Int32))} {d k n : Nat} {P : am_O → Prop} {I : am_I} {J : am_J} {Pf : am_R} (hp : am_PF Pf) {l1 : Option Value} {l2 : Option Value} {l3 : Option Value} {l4 : Option Value} {s0 : Int32} (q : (if s0 = 45 then (am_go sc d 220 (38, [some (.ref 163), l1, l2, l3, l4], [], (am_SH, I, J, Pf), k, n) P) else (P (.inl none, (am_SH, I, J, Pf), k, n)))) : am_go sc d 220 (33, [some (.ref 163), l1, l2, l3, l4], [.int s0], (am_SH, I, J, Pf), k, n) P := by
  refine am_s_bipush am_cb45 dc220_1.2.2.2 ?_
  refine am_s_ic_ne dc220_2.1.1.1 rfl (fun c1 => ?_) (fun c1 => ?_)
  · exact am_s_return dc220_11.2.2.2 rfl ((vi_f q c1))
  · exact (vi_t q (Decidable.not_not.mp c1))
-- holdsIn ([III)Z
theorem v221_0 {sc : Option (Nat × (Nat → Int32))} {d k n : Nat} {P : am_O → Prop} {I : am_I} {J : am_J} {Pf : am_R} (hp : am_PF Pf) {l0 : Option Value} {x1 : Nat} {Lx1 : Nat} (hx1 : am_SH[x1]? = some (.inr (0, Lx1))) {x2 : Int32} {x3 : Int32} {l4 : Option Value} (q : (am_in ((8 + (3 * x2)) + ((x3 - 32) / 32)) Lx1 = true) ∧ (if (((I x1 (Int32.toNatClampNeg ((8 + (3 * x2)) + ((x3 - 32) / 32)))) >>> (((x3 - 32) - (x3 - 32) / 32 * 32) &&& 31)) &&& 1) = 1 then (P (.inl (some (.int 1)), (am_SH, I, J, Pf), k, n)) else (P (.inl (some (.int 0)), (am_SH, I, J, Pf), k, n)))) : am_go sc d 221 (0, [l0, some (.ref x1), some (.int x2), some (.int x3), l4], [], (am_SH, I, J, Pf), k, n) P := by
  refine am_s_iload_n rfl dc221_0.1.1.1 ?_
  refine am_s_bipush am_cb32 dc221_0.1.1.2 ?_
  refine am_s_isub dc221_0.1.2.1 ?_
  refine am_s_istore (ls' := [l0, some (.ref x1), some (.int x2), some (.int x3), some (.int (x3 - 32))]) rfl rfl dc221_0.1.2.2 ?_
  refine am_s_aload_n rfl dc221_0.2.1.1 ?_
  refine am_s_bipush am_cb8 dc221_0.2.1.2 ?_
  refine am_s_iconst am_cc3 dc221_0.2.2.1 ?_
  refine am_s_iload_n rfl dc221_0.2.2.2 ?_
  refine am_s_imul dc221_1.1.1.1 ?_
  refine am_s_iadd dc221_1.1.1.2 ?_
  refine am_s_iload rfl dc221_1.1.2.1 ?_
  refine am_s_bipush am_cb32 dc221_1.1.2.2 ?_
  refine am_s_idiv (by decide) dc221_1.2.1.1 ?_
  refine am_s_iadd dc221_1.2.1.2 ?_
  refine am_x_iaload (x := I x1 (Int32.toNatClampNeg ((8 + (3 * x2)) + ((x3 - 32) / 32)))) dc221_1.2.2.1 hx1 (q.1) rfl rfl ?_
  refine am_s_iload rfl dc221_1.2.2.2 ?_
  refine am_s_bipush am_cb32 dc221_2.1.1.1 ?_
  refine am_s_irem (by decide) dc221_2.1.1.2 ?_
  refine am_s_ishr dc221_2.1.2.1 ?_
  refine am_s_iconst am_cc1 dc221_2.1.2.2 ?_
  refine am_s_iand dc221_2.2.1.1 ?_
  refine am_s_iconst am_cc1 dc221_2.2.1.2 ?_
  refine am_s_ic_ne dc221_2.2.2.1 rfl (fun c1 => ?_) (fun c1 => ?_)
  · refine am_s_iconst am_cc0 dc221_3.2.1 ?_
    exact am_s_zreturn dc221_3.2.2 rfl (by decide) ((vi_f q.2 c1))
  · refine am_s_iconst am_cc1 dc221_2.2.2.2 ?_
    refine am_s_goto rfl dc221_3.1 ?_
    exact am_s_zreturn dc221_3.2.2 rfl (by decide) ((vi_t q.2 (Decidable.not_not.mp c1)))
-- manyOf (I)I
theorem v222_0 {sc : Option (Nat × (Nat → Int32))} {d k n : Nat} {P : am_O → Prop} {I : am_I} {J : am_J} {Pf : am_R} (hp : am_PF Pf) {x0 : Int32} (q : (am_mth d 199 [.retAddr 2] (am_SH, I, J, Pf) (am_af sc d 222 4 [some (.int x0)] [.retAddr 2, .int x0] [.int x0] (am_SH, I, J, Pf) k n false P))) : am_go sc d 222 (0, [some (.int x0)], [], (am_SH, I, J, Pf), k, n) P := by
  refine am_s_iload_n rfl dc222_0.1.1.1 ?_
  refine am_s_ldcwT (x := 2) dc222_0.1.1.2 rfl rfl ?_
  exact am_s_static dc222_0.1.2.1 rfl rfl rfl (q)
theorem v222_7 {sc : Option (Nat × (Nat → Int32))} {d k n : Nat} {P : am_O → Prop} {I : am_I} {J : am_J} {Pf : am_R} (hp : am_PF Pf) {x0 : Int32} {s0 : Int32} {s1 : Int32} (q : (if s0 = s1 then (P (.inl (some (.int 0)), (am_SH, I, J, Pf), k, n)) else (am_mth d 199 [.retAddr 3] (am_SH, I, J, Pf) (am_af sc d 222 18 [some (.int x0)] [.retAddr 3, .int x0] [.int x0] (am_SH, I, J, Pf) k n false P)))) : am_go sc d 222 (7, [some (.int x0)], [.int s1, .int s0], (am_SH, I, J, Pf), k, n) P := by
  refine am_s_ic_ne dc222_0.1.2.2 rfl (fun c1 => ?_) (fun c1 => ?_)
  · refine am_s_iload_n rfl dc222_0.2.2.1 ?_
    refine am_s_ldcwT (x := 3) dc222_0.2.2.2 rfl rfl ?_
    exact am_s_static dc222_1.1.1.1 rfl rfl rfl ((vi_f q c1))
  · refine am_s_iconst am_cc0 dc222_0.2.1.1 ?_
    refine am_s_goto rfl dc222_0.2.1.2 ?_
    exact am_s_ireturn dc222_5.2 rfl ((vi_t q (Decidable.not_not.mp c1)))
theorem v222_21 {sc : Option (Nat × (Nat → Int32))} {d k n : Nat} {P : am_O → Prop} {I : am_I} {J : am_J} {Pf : am_R} (hp : am_PF Pf) {x0 : Int32} {s0 : Int32} {s1 : Int32} (q : (if s0 = s1 then (P (.inl (some (.int 1)), (am_SH, I, J, Pf), k, n)) else (am_mth d 199 [.retAddr 4] (am_SH, I, J, Pf) (am_af sc d 222 28 [some (.int x0)] [.retAddr 4, .int x0] [.int x0] (am_SH, I, J, Pf) k n false P)))) : am_go sc d 222 (21, [some (.int x0)], [.int s1, .int s0], (am_SH, I, J, Pf), k, n) P := by
  refine am_s_ic_eq dc222_1.1.1.2 rfl (fun c1 => ?_) (fun c1 => ?_)
  · refine am_s_iconst am_cc1 dc222_1.2.2.1 ?_
    refine am_s_goto rfl dc222_1.2.2.2 ?_
    exact am_s_ireturn dc222_5.2 rfl ((vi_t q c1))
  · refine am_s_iload_n rfl dc222_1.1.2.1 ?_
    refine am_s_ldcwT (x := 4) dc222_1.1.2.2 rfl rfl ?_
    exact am_s_static dc222_1.2.1.1 rfl rfl rfl ((vi_f q c1))
theorem v222_31 {sc : Option (Nat × (Nat → Int32))} {d k n : Nat} {P : am_O → Prop} {I : am_I} {J : am_J} {Pf : am_R} (hp : am_PF Pf) {x0 : Int32} {s0 : Int32} {s1 : Int32} (q : (if s0 = s1 then (P (.inl (some (.int 1)), (am_SH, I, J, Pf), k, n)) else (am_mth d 199 [.retAddr 5] (am_SH, I, J, Pf) (am_af sc d 222 42 [some (.int x0)] [.retAddr 5, .int x0] [.int x0] (am_SH, I, J, Pf) k n false P)))) : am_go sc d 222 (31, [some (.int x0)], [.int s1, .int s0], (am_SH, I, J, Pf), k, n) P := by
  refine am_s_ic_ne dc222_1.2.1.2 rfl (fun c1 => ?_) (fun c1 => ?_)
  · refine am_s_iload_n rfl dc222_2.1.1.1 ?_
    refine am_s_ldcwT (x := 5) dc222_2.1.1.2 rfl rfl ?_
    exact am_s_static dc222_2.1.2.1 rfl rfl rfl ((vi_f q c1))
  · refine am_s_iconst am_cc1 dc222_1.2.2.1 ?_
    refine am_s_goto rfl dc222_1.2.2.2 ?_
    exact am_s_ireturn dc222_5.2 rfl ((vi_t q (Decidable.not_not.mp c1)))
theorem v222_45 {sc : Option (Nat × (Nat → Int32))} {d k n : Nat} {P : am_O → Prop} {I : am_I} {J : am_J} {Pf : am_R} (hp : am_PF Pf) {x0 : Int32} {s0 : Int32} {s1 : Int32} (q : (if s0 = s1 then (P (.inl (some (.int 2)), (am_SH, I, J, Pf), k, n)) else (am_mth d 199 [.retAddr 6] (am_SH, I, J, Pf) (am_af sc d 222 56 [some (.int x0)] [.retAddr 6, .int x0] [.int x0] (am_SH, I, J, Pf) k n false P)))) : am_go sc d 222 (45, [some (.int x0)], [.int s1, .int s0], (am_SH, I, J, Pf), k, n) P := by
  refine am_s_ic_ne dc222_2.1.2.2 rfl (fun c1 => ?_) (fun c1 => ?_)
  · refine am_s_iload_n rfl dc222_2.2.2.1 ?_
    refine am_s_ldcwT (x := 6) dc222_2.2.2.2 rfl rfl ?_
    exact am_s_static dc222_3.1.1.1 rfl rfl rfl ((vi_f q c1))
  · refine am_s_iconst am_cc2 dc222_2.2.1.1 ?_
    refine am_s_goto rfl dc222_2.2.1.2 ?_
    exact am_s_ireturn dc222_5.2 rfl ((vi_t q (Decidable.not_not.mp c1)))
theorem v222_59 {sc : Option (Nat × (Nat → Int32))} {d k n : Nat} {P : am_O → Prop} {I : am_I} {J : am_J} {Pf : am_R} (hp : am_PF Pf) {x0 : Int32} {s0 : Int32} {s1 : Int32} (q : (if s0 = s1 then (P (.inl (some (.int 3)), (am_SH, I, J, Pf), k, n)) else (am_mth d 199 [.retAddr 7] (am_SH, I, J, Pf) (am_af sc d 222 70 [some (.int x0)] [.retAddr 7, .int x0] [.int x0] (am_SH, I, J, Pf) k n false P)))) : am_go sc d 222 (59, [some (.int x0)], [.int s1, .int s0], (am_SH, I, J, Pf), k, n) P := by
  refine am_s_ic_ne dc222_3.1.1.2 rfl (fun c1 => ?_) (fun c1 => ?_)
  · refine am_s_iload_n rfl dc222_3.2.1.1 ?_
    refine am_s_ldcwT (x := 7) dc222_3.2.1.2 rfl rfl ?_
    exact am_s_static dc222_3.2.2.1 rfl rfl rfl ((vi_f q c1))
  · refine am_s_iconst am_cc3 dc222_3.1.2.1 ?_
    refine am_s_goto rfl dc222_3.1.2.2 ?_
    exact am_s_ireturn dc222_5.2 rfl ((vi_t q (Decidable.not_not.mp c1)))
theorem v222_73 {sc : Option (Nat × (Nat → Int32))} {d k n : Nat} {P : am_O → Prop} {I : am_I} {J : am_J} {Pf : am_R} (hp : am_PF Pf) {x0 : Int32} {s0 : Int32} {s1 : Int32} (q : (if s0 = s1 then (P (.inl (some (.int 4)), (am_SH, I, J, Pf), k, n)) else (am_mth d 199 [.retAddr 8] (am_SH, I, J, Pf) (am_af sc d 222 84 [some (.int x0)] [.retAddr 8, .int x0] [.int x0] (am_SH, I, J, Pf) k n false P)))) : am_go sc d 222 (73, [some (.int x0)], [.int s1, .int s0], (am_SH, I, J, Pf), k, n) P := by
  refine am_s_ic_ne dc222_3.2.2.2 rfl (fun c1 => ?_) (fun c1 => ?_)
  · refine am_s_iload_n rfl dc222_4.1.2.1 ?_
    refine am_s_ldcwT (x := 8) dc222_4.1.2.2 rfl rfl ?_
    exact am_s_static dc222_4.2.1.1 rfl rfl rfl ((vi_f q c1))
  · refine am_s_iconst am_cc4 dc222_4.1.1.1 ?_
    refine am_s_goto rfl dc222_4.1.1.2 ?_
    exact am_s_ireturn dc222_5.2 rfl ((vi_t q (Decidable.not_not.mp c1)))
theorem v222_87 {sc : Option (Nat × (Nat → Int32))} {d k n : Nat} {P : am_O → Prop} {I : am_I} {J : am_J} {Pf : am_R} (hp : am_PF Pf) {l0 : Option Value} {s0 : Int32} {s1 : Int32} (q : (if s0 = s1 then (P (.inl (some (.int 5)), (am_SH, I, J, Pf), k, n)) else (P (.inl (some (.int (-1))), (am_SH, I, J, Pf), k, n)))) : am_go sc d 222 (87, [l0], [.int s1, .int s0], (am_SH, I, J, Pf), k, n) P := by
  refine am_s_ic_ne dc222_4.2.1.2 rfl (fun c1 => ?_) (fun c1 => ?_)
  · refine am_s_iconst am_ccm1 dc222_5.1 ?_
    exact am_s_ireturn dc222_5.2 rfl ((vi_f q c1))
  · refine am_s_iconst am_cc5 dc222_4.2.2.1 ?_
    refine am_s_goto rfl dc222_4.2.2.2 ?_
    exact am_s_ireturn dc222_5.2 rfl ((vi_t q (Decidable.not_not.mp c1)))
-- mostOf (I)I
theorem v223_0 {sc : Option (Nat × (Nat → Int32))} {d k n : Nat} {P : am_O → Prop} {I : am_I} {J : am_J} {Pf : am_R} (hp : am_PF Pf) {x0 : Int32} (q : (if x0 = 0 then (P (.inl (some (.int 8)), (am_SH, I, J, Pf), k, n)) else (if x0 = 1 then (P (.inl (some (.int 20)), (am_SH, I, J, Pf), k, n)) else (if x0 = 2 then (P (.inl (some (.int 4)), (am_SH, I, J, Pf), k, n)) else (if x0 = 3 then (P (.inl (some (.int 8)), (am_SH, I, J, Pf), k, n)) else (P (.inl (some (.int 8)), (am_SH, I, J, Pf), k, n))))))) : am_go sc d 223 (0, [some (.int x0)], [], (am_SH, I, J, Pf), k, n) P := by
  refine am_s_iload_n rfl dc223_0.1.1.1 ?_
  refine am_s_if_ne dc223_0.1.1.2 rfl (fun c1 => ?_) (fun c1 => ?_)
  · refine am_s_iload_n rfl dc223_0.2.1.1 ?_
    refine am_s_iconst am_cc1 dc223_0.2.1.2 ?_
    refine am_s_ic_ne dc223_0.2.2.1 rfl (fun c2 => ?_) (fun c2 => ?_)
    · refine am_s_iload_n rfl dc223_1.1.1.2 ?_
      refine am_s_iconst am_cc2 dc223_1.1.2.1 ?_
      refine am_s_ic_ne dc223_1.1.2.2 rfl (fun c3 => ?_) (fun c3 => ?_)
      · refine am_s_iload_n rfl dc223_1.2.2.1 ?_
        refine am_s_iconst am_cc3 dc223_1.2.2.2 ?_
        refine am_s_ic_ne dc223_2.1.1 rfl (fun c4 => ?_) (fun c4 => ?_)
        · refine am_s_bipush am_cb8 dc223_2.2.2.1 ?_
          exact am_s_ireturn dc223_2.2.2.2 rfl ((vi_f (vi_f (vi_f (vi_f q c1) c2) c3) c4))
        · refine am_s_bipush am_cb8 dc223_2.1.2 ?_
          refine am_s_goto rfl dc223_2.2.1 ?_
          exact am_s_ireturn dc223_2.2.2.2 rfl ((vi_t (vi_f (vi_f (vi_f q c1) c2) c3) (Decidable.not_not.mp c4)))
      · refine am_s_iconst am_cc4 dc223_1.2.1.1 ?_
        refine am_s_goto rfl dc223_1.2.1.2 ?_
        exact am_s_ireturn dc223_2.2.2.2 rfl ((vi_t (vi_f (vi_f q c1) c2) (Decidable.not_not.mp c3)))
    · refine am_s_bipush am_cb20 dc223_0.2.2.2 ?_
      refine am_s_goto rfl dc223_1.1.1.1 ?_
      exact am_s_ireturn dc223_2.2.2.2 rfl ((vi_t (vi_f q c1) (Decidable.not_not.mp c2)))
  · refine am_s_bipush am_cb8 dc223_0.1.2.1 ?_
    refine am_s_goto rfl dc223_0.1.2.2 ?_
    exact am_s_ireturn dc223_2.2.2.2 rfl ((vi_t q (Decidable.not_not.mp c1)))
-- readPart (II)V
theorem v224_0 {sc : Option (Nat × (Nat → Int32))} {d k n : Nat} {P : am_O → Prop} {I : am_I} {J : am_J} {Pf : am_R} (hp : am_PF Pf) {x1 : Int32} {x2 : Int32} {l3 : Option Value} {l4 : Option Value} {l5 : Option Value} (q : (am_mth d 195 [.ref 163] (am_SH, I, J, Pf) (am_af sc d 224 1 [some (.ref 163), some (.int x1), some (.int x2), l3, l4, l5] [.ref 163] [] (am_SH, I, J, Pf) k n true P))) : am_go sc d 224 (0, [some (.ref 163), some (.int x1), some (.int x2), l3, l4, l5], [], (am_SH, I, J, Pf), k, n) P := by
  refine am_s_aload_n rfl dc224_0.1.1.1 ?_
  exact am_s_virtual true dc224_0.1.1.2 rfl (by decide) rfl rfl rfl (q)
theorem v224_48 {sc : Option (Nat × (Nat → Int32))} {d k n : Nat} {P : am_O → Prop} {I : am_I} {J : am_J} {Pf : am_R} (hp : am_PF Pf) {l1 : Option Value} {x2 : Int32} {x3 : Int32} {x4 : Int32} {l5 : Option Value} (q : (if x2 = 4 then (if (I 163 5) = (-1) then (if (I 163 4) = (-1) then (if x3 = 35 then (am_in x4 1040 = true) ∧ (am_mth (d + 1) 217 [.ref 163] (am_SH, am_u (am_u (am_u I 163 5 (I 163 4)) 163 6 3) 166 (Int32.toNatClampNeg x4) 0, J, Pf) (am_af sc (d + 1) 224 93 [some (.ref 163), l1, some (.int x2), some (.int x3), some (.int x4), l5] [.ref 163, .int (x4 + 1), .ref 166] [.int (x4 + 1), .ref 166] (am_SH, am_u (am_u (am_u I 163 5 (I 163 4)) 163 6 3) 166 (Int32.toNatClampNeg x4) 0, J, Pf) k n true P)) else (if x3 = 64 then (am_in x4 1040 = true) ∧ (am_mth (d + 1) 201 [.ref 163, .int 0, .int 7] (am_SH, am_u (am_u (am_u (am_u I 163 5 (I 163 4)) 163 6 3) 163 4 ((I 163 4) + 1)) 166 (Int32.toNatClampNeg x4) 1, J, Pf) (am_af sc (d + 1) 224 136 [some (.ref 163), l1, some (.int x2), some (.int x3), some (.int x4), l5] [.int 7, .int 0, .ref 163, .int (x4 + 1), .ref 166] [.int (x4 + 1), .ref 166] (am_SH, am_u (am_u (am_u (am_u I 163 5 (I 163 4)) 163 6 3) 163 4 ((I 163 4) + 1)) 166 (Int32.toNatClampNeg x4) 1, J, Pf) k n true P)) else (am_mth (d + 1) 214 [.ref 163] (am_SH, am_u (am_u I 163 5 (I 163 4)) 163 6 3, J, Pf) (am_af sc (d + 1) 224 144 [some (.ref 163), l1, some (.int x2), some (.int x3), some (.int x4), l5] [.ref 163] [] (am_SH, am_u (am_u I 163 5 (I 163 4)) 163 6 3, J, Pf) k n true P)))) else (P (.inl none, (am_SH, am_u (am_u I 163 5 (I 163 4)) 163 6 3, J, Pf), k, n))) else (P (.inl none, (am_SH, I, J, Pf), k, n))) else (if (I 163 5) = (-1) then (if x3 = 35 then (am_in x4 1040 = true) ∧ (am_mth (d + 1) 217 [.ref 163] (am_SH, am_u I 166 (Int32.toNatClampNeg x4) 0, J, Pf) (am_af sc (d + 1) 224 93 [some (.ref 163), l1, some (.int x2), some (.int x3), some (.int x4), l5] [.ref 163, .int (x4 + 1), .ref 166] [.int (x4 + 1), .ref 166] (am_SH, am_u I 166 (Int32.toNatClampNeg x4) 0, J, Pf) k n true P)) else (if x3 = 64 then (am_in x4 1040 = true) ∧ (am_mth (d + 1) 201 [.ref 163, .int 0, .int 7] (am_SH, am_u (am_u I 163 4 ((I 163 4) + 1)) 166 (Int32.toNatClampNeg x4) 1, J, Pf) (am_af sc (d + 1) 224 136 [some (.ref 163), l1, some (.int x2), some (.int x3), some (.int x4), l5] [.int 7, .int 0, .ref 163, .int (x4 + 1), .ref 166] [.int (x4 + 1), .ref 166] (am_SH, am_u (am_u I 163 4 ((I 163 4) + 1)) 166 (Int32.toNatClampNeg x4) 1, J, Pf) k n true P)) else (am_mth (d + 1) 214 [.ref 163] (am_SH, I, J, Pf) (am_af sc (d + 1) 224 144 [some (.ref 163), l1, some (.int x2), some (.int x3), some (.int x4), l5] [.ref 163] [] (am_SH, I, J, Pf) k n true P)))) else (P (.inl none, (am_SH, I, J, Pf), k, n))))) : am_go sc (d + 1) 224 (48, [some (.ref 163), l1, some (.int x2), some (.int x3), some (.int x4), l5], [], (am_SH, I, J, Pf), k, n) P := by
  refine am_s_iload_n rfl dc224_3.2.1.1 ?_
  refine am_s_iconst am_cc4 dc224_3.2.1.2 ?_
  refine am_s_ic_ne dc224_3.2.2.1 rfl (fun c1 => ?_) (fun c1 => ?_)
  · refine am_s_aload_n rfl dc224_4.2.1.1 ?_
    refine am_s_virtual true dc224_4.2.1.2 rfl (by decide) rfl rfl rfl (am_mth_of rfl rfl ?_)
    refine am_s_aload_n rfl dc193_0.1.1.1 ?_
    refine am_x_getI (x := I 163 5) dc193_0.1.1.2 rfl rfl (Or.inl rfl) rfl ?_
    refine am_s_iconst am_ccm1 dc193_0.1.2.1 ?_
    refine am_s_ic_ne dc193_0.1.2.2 rfl (fun c2 => ?_) (fun c2 => ?_)
    · refine am_s_iconst am_cc0 dc193_0.2.2.1 ?_
      refine am_s_zreturn dc193_0.2.2.2 rfl (by decide) (am_bkI ?_)
      refine am_s_if_ne dc224_4.2.2.1 rfl (fun z => absurd z (by decide)) (fun _ => ?_)
      exact am_s_return dc224_4.2.2.2 rfl ((vi_f (vi_f q c1) c2))
    · refine am_s_iconst am_cc1 dc193_0.2.1.1 ?_
      refine am_s_goto rfl dc193_0.2.1.2 ?_
      refine am_s_zreturn dc193_0.2.2.2 rfl (by decide) (am_bkI ?_)
      refine am_s_if_ne dc224_4.2.2.1 rfl (fun _ => ?_) (fun z => absurd z (by decide))
      refine am_s_iload_n rfl dc224_5.1.1.1 ?_
      refine am_s_bipush am_cb35 dc224_5.1.1.2 ?_
      refine am_s_ic_ne dc224_5.1.2.1 rfl (fun c3 => ?_) (fun c3 => ?_)
      · refine am_s_iload_n rfl dc224_7.1.1.2 ?_
        refine am_s_bipush am_cb64 dc224_7.1.2.1 ?_
        refine am_s_ic_ne dc224_7.1.2.2 rfl (fun c4 => ?_) (fun c4 => ?_)
        · refine am_s_aload_n rfl dc224_10.1.2.1 ?_
          exact am_s_virtual true dc224_10.1.2.2 rfl (by decide) rfl rfl rfl ((vi_f (vi_f (vi_t (vi_f q c1) (Decidable.not_not.mp c2)) c3) c4))
        · refine am_s_aload_n rfl dc224_7.2.1.1 ?_
          refine am_s_dup rfl dc224_7.2.1.2 ?_
          refine am_x_getI (x := I 163 4) dc224_7.2.2.1 rfl rfl (Or.inl rfl) rfl ?_
          refine am_s_iconst am_cc1 dc224_7.2.2.2 ?_
          refine am_s_iadd dc224_8.1.1.1 ?_
          refine am_s_putI dc224_8.1.1.2 rfl rfl rfl rfl ?_
          refine am_s_aload_n rfl dc224_8.1.2.1 ?_
          refine am_s_getR (r := 166) dc224_8.1.2.2 rfl rfl rfl (hp _ _ _ rfl) ?_
          refine am_s_iload rfl dc224_8.2.1.1 ?_
          refine am_s_iconst am_cc1 dc224_8.2.1.2 ?_
          refine am_s_iastore dc224_8.2.2.1 rfl ((vi_t (vi_f (vi_t (vi_f q c1) (Decidable.not_not.mp c2)) c3) (Decidable.not_not.mp c4)).1) rfl ?_
          refine am_s_aload_n rfl dc224_8.2.2.2 ?_
          refine am_s_getR (r := 166) dc224_9.1.1.1 rfl rfl rfl (hp _ _ _ rfl) ?_
          refine am_s_iload rfl dc224_9.1.1.2 ?_
          refine am_s_iconst am_cc1 dc224_9.1.2.1 ?_
          refine am_s_iadd dc224_9.1.2.2 ?_
          refine am_s_aload_n rfl dc224_9.2.1.1 ?_
          refine am_s_iconst am_cc0 dc224_9.2.1.2 ?_
          refine am_s_bipush am_cb7 dc224_9.2.2.1 ?_
          exact am_s_virtual true dc224_9.2.2.2 rfl (by decide) rfl rfl rfl ((vi_t (vi_f (vi_t (vi_f q c1) (Decidable.not_not.mp c2)) c3) (Decidable.not_not.mp c4)).2)
      · refine am_s_aload_n rfl dc224_5.1.2.2 ?_
        refine am_s_getR (r := 166) dc224_5.2.1.1 rfl rfl rfl (hp _ _ _ rfl) ?_
        refine am_s_iload rfl dc224_5.2.1.2 ?_
        refine am_s_iconst am_cc0 dc224_5.2.2.1 ?_
        refine am_s_iastore dc224_5.2.2.2 rfl ((vi_t (vi_t (vi_f q c1) (Decidable.not_not.mp c2)) (Decidable.not_not.mp c3)).1) rfl ?_
        refine am_s_aload_n rfl dc224_6.1.1.1 ?_
        refine am_s_getR (r := 166) dc224_6.1.1.2 rfl rfl rfl (hp _ _ _ rfl) ?_
        refine am_s_iload rfl dc224_6.1.2.1 ?_
        refine am_s_iconst am_cc1 dc224_6.1.2.2 ?_
        refine am_s_iadd dc224_6.2.1.1 ?_
        refine am_s_aload_n rfl dc224_6.2.1.2 ?_
        exact am_s_virtual true dc224_6.2.2.1 rfl (by decide) rfl rfl rfl ((vi_t (vi_t (vi_f q c1) (Decidable.not_not.mp c2)) (Decidable.not_not.mp c3)).2)
  · refine am_s_aload_n rfl dc224_3.2.2.2 ?_
    refine am_s_iconst am_cc3 dc224_4.1.1.1 ?_
    refine am_s_aload_n rfl dc224_4.1.1.2 ?_
    refine am_x_getI (x := I 163 4) dc224_4.1.2.1 rfl rfl (Or.inl rfl) rfl ?_
    refine am_s_virtual true dc224_4.1.2.2 rfl (by decide) rfl rfl rfl (am_mth_of rfl rfl ?_)
    refine am_s_aload_n rfl dc194_0.1.1.1 ?_
    refine am_x_getI (x := I 163 5) dc194_0.1.1.2 rfl rfl (Or.inl rfl) rfl ?_
    refine am_s_iconst am_ccm1 dc194_0.1.2.1 ?_
    refine am_s_ic_eq dc194_0.1.2.2 rfl (fun c2 => ?_) (fun c2 => ?_)
    · refine am_s_aload_n rfl dc194_0.2.1.2 ?_
      refine am_s_iload_n rfl dc194_0.2.2.1 ?_
      refine am_s_putI dc194_0.2.2.2 rfl rfl rfl rfl ?_
      refine am_s_aload_n rfl dc194_1.1.1 ?_
      refine am_s_iload_n rfl dc194_1.1.2 ?_
      refine am_s_putI dc194_1.2.1 rfl rfl rfl rfl ?_
      refine am_s_return dc194_1.2.2 rfl (am_bkV ?_)
      refine am_s_aload_n rfl dc224_4.2.1.1 ?_
      refine am_s_virtual true dc224_4.2.1.2 rfl (by decide) rfl rfl rfl (am_mth_of rfl rfl ?_)
      refine am_s_aload_n rfl dc193_0.1.1.1 ?_
      refine am_x_getI (x := I 163 4) dc193_0.1.1.2 rfl rfl (Or.inl rfl) rfl ?_
      refine am_s_iconst am_ccm1 dc193_0.1.2.1 ?_
      refine am_s_ic_ne dc193_0.1.2.2 rfl (fun c3 => ?_) (fun c3 => ?_)
      · refine am_s_iconst am_cc0 dc193_0.2.2.1 ?_
        refine am_s_zreturn dc193_0.2.2.2 rfl (by decide) (am_bkI ?_)
        refine am_s_if_ne dc224_4.2.2.1 rfl (fun z => absurd z (by decide)) (fun _ => ?_)
        exact am_s_return dc224_4.2.2.2 rfl ((vi_f (vi_t (vi_t q (Decidable.not_not.mp c1)) c2) c3))
      · refine am_s_iconst am_cc1 dc193_0.2.1.1 ?_
        refine am_s_goto rfl dc193_0.2.1.2 ?_
        refine am_s_zreturn dc193_0.2.2.2 rfl (by decide) (am_bkI ?_)
        refine am_s_if_ne dc224_4.2.2.1 rfl (fun _ => ?_) (fun z => absurd z (by decide))
        refine am_s_iload_n rfl dc224_5.1.1.1 ?_
        refine am_s_bipush am_cb35 dc224_5.1.1.2 ?_
        refine am_s_ic_ne dc224_5.1.2.1 rfl (fun c4 => ?_) (fun c4 => ?_)
        · refine am_s_iload_n rfl dc224_7.1.1.2 ?_
          refine am_s_bipush am_cb64 dc224_7.1.2.1 ?_
          refine am_s_ic_ne dc224_7.1.2.2 rfl (fun c5 => ?_) (fun c5 => ?_)
          · refine am_s_aload_n rfl dc224_10.1.2.1 ?_
            exact am_s_virtual true dc224_10.1.2.2 rfl (by decide) rfl rfl rfl ((vi_f (vi_f (vi_t (vi_t (vi_t q (Decidable.not_not.mp c1)) c2) (Decidable.not_not.mp c3)) c4) c5))
          · refine am_s_aload_n rfl dc224_7.2.1.1 ?_
            refine am_s_dup rfl dc224_7.2.1.2 ?_
            refine am_x_getI (x := I 163 4) dc224_7.2.2.1 rfl rfl (Or.inl rfl) rfl ?_
            refine am_s_iconst am_cc1 dc224_7.2.2.2 ?_
            refine am_s_iadd dc224_8.1.1.1 ?_
            refine am_s_putI dc224_8.1.1.2 rfl rfl rfl rfl ?_
            refine am_s_aload_n rfl dc224_8.1.2.1 ?_
            refine am_s_getR (r := 166) dc224_8.1.2.2 rfl rfl rfl (hp _ _ _ rfl) ?_
            refine am_s_iload rfl dc224_8.2.1.1 ?_
            refine am_s_iconst am_cc1 dc224_8.2.1.2 ?_
            refine am_s_iastore dc224_8.2.2.1 rfl ((vi_t (vi_f (vi_t (vi_t (vi_t q (Decidable.not_not.mp c1)) c2) (Decidable.not_not.mp c3)) c4) (Decidable.not_not.mp c5)).1) rfl ?_
            refine am_s_aload_n rfl dc224_8.2.2.2 ?_
            refine am_s_getR (r := 166) dc224_9.1.1.1 rfl rfl rfl (hp _ _ _ rfl) ?_
            refine am_s_iload rfl dc224_9.1.1.2 ?_
            refine am_s_iconst am_cc1 dc224_9.1.2.1 ?_
            refine am_s_iadd dc224_9.1.2.2 ?_
            refine am_s_aload_n rfl dc224_9.2.1.1 ?_
            refine am_s_iconst am_cc0 dc224_9.2.1.2 ?_
            refine am_s_bipush am_cb7 dc224_9.2.2.1 ?_
            exact am_s_virtual true dc224_9.2.2.2 rfl (by decide) rfl rfl rfl ((vi_t (vi_f (vi_t (vi_t (vi_t q (Decidable.not_not.mp c1)) c2) (Decidable.not_not.mp c3)) c4) (Decidable.not_not.mp c5)).2)
        · refine am_s_aload_n rfl dc224_5.1.2.2 ?_
          refine am_s_getR (r := 166) dc224_5.2.1.1 rfl rfl rfl (hp _ _ _ rfl) ?_
          refine am_s_iload rfl dc224_5.2.1.2 ?_
          refine am_s_iconst am_cc0 dc224_5.2.2.1 ?_
          refine am_s_iastore dc224_5.2.2.2 rfl ((vi_t (vi_t (vi_t (vi_t q (Decidable.not_not.mp c1)) c2) (Decidable.not_not.mp c3)) (Decidable.not_not.mp c4)).1) rfl ?_
          refine am_s_aload_n rfl dc224_6.1.1.1 ?_
          refine am_s_getR (r := 166) dc224_6.1.1.2 rfl rfl rfl (hp _ _ _ rfl) ?_
          refine am_s_iload rfl dc224_6.1.2.1 ?_
          refine am_s_iconst am_cc1 dc224_6.1.2.2 ?_
          refine am_s_iadd dc224_6.2.1.1 ?_
          refine am_s_aload_n rfl dc224_6.2.1.2 ?_
          exact am_s_virtual true dc224_6.2.2.1 rfl (by decide) rfl rfl rfl ((vi_t (vi_t (vi_t (vi_t q (Decidable.not_not.mp c1)) c2) (Decidable.not_not.mp c3)) (Decidable.not_not.mp c4)).2)
    · refine am_s_return dc194_0.2.1.1 rfl (am_bkV ?_)
      refine am_s_aload_n rfl dc224_4.2.1.1 ?_
      refine am_s_virtual true dc224_4.2.1.2 rfl (by decide) rfl rfl rfl (am_mth_of rfl rfl ?_)
      refine am_s_aload_n rfl dc193_0.1.1.1 ?_
      refine am_x_getI (x := I 163 5) dc193_0.1.1.2 rfl rfl (Or.inl rfl) rfl ?_
      refine am_s_iconst am_ccm1 dc193_0.1.2.1 ?_
      refine am_s_ic_ne dc193_0.1.2.2 rfl (fun _ => ?_) (fun z => absurd c2 z)
      refine am_s_iconst am_cc0 dc193_0.2.2.1 ?_
      refine am_s_zreturn dc193_0.2.2.2 rfl (by decide) (am_bkI ?_)
      refine am_s_if_ne dc224_4.2.2.1 rfl (fun z => absurd z (by decide)) (fun _ => ?_)
      exact am_s_return dc224_4.2.2.2 rfl ((vi_f (vi_t q (Decidable.not_not.mp c1)) c2))
theorem v224_171 {sc : Option (Nat × (Nat → Int32))} {d k n : Nat} {P : am_O → Prop} {I : am_I} {J : am_J} {Pf : am_R} (hp : am_PF Pf) {l1 : Option Value} {l2 : Option Value} {l3 : Option Value} {x4 : Int32} {x5 : Int32} (q : (if 8 ≤ x5 then (P (.inl none, (am_SH, I, J, Pf), k, n)) else (if (I 163 14) ≤ x5 then (am_in ((x4 + 3) + x5) 1040 = true) ∧ (am_go sc d 224 (171, [some (.ref 163), l1, l2, l3, some (.int x4), some (.int (x5 + 1))], [], (am_SH, am_u I 166 (Int32.toNatClampNeg ((x4 + 3) + x5)) 0, J, Pf), k, n) P) else (am_in x5 600 = true) ∧ (am_in ((x4 + 3) + x5) 1040 = true) ∧ (am_go sc d 224 (171, [some (.ref 163), l1, l2, l3, some (.int x4), some (.int (x5 + 1))], [], (am_SH, am_u I 166 (Int32.toNatClampNeg ((x4 + 3) + x5)) (I 168 (Int32.toNatClampNeg x5)), J, Pf), k, n) P)))) : am_go sc d 224 (171, [some (.ref 163), l1, l2, l3, some (.int x4), some (.int x5)], [], (am_SH, I, J, Pf), k, n) P := by
  refine am_s_iload rfl dc224_12.1.2.2 ?_
  refine am_s_bipush am_cb8 dc224_12.2.1.1 ?_
  refine am_s_ic_ge dc224_12.2.1.2 rfl (fun c1 => ?_) (fun c1 => ?_)
  · exact am_s_return dc224_15.2.2 rfl ((vi_t q c1))
  · refine am_s_aload_n rfl dc224_12.2.2.1 ?_
    refine am_s_getR (r := 166) dc224_12.2.2.2 rfl rfl rfl (hp _ _ _ rfl) ?_
    refine am_s_iload rfl dc224_13.1.1.1 ?_
    refine am_s_iconst am_cc3 dc224_13.1.1.2 ?_
    refine am_s_iadd dc224_13.1.2.1 ?_
    refine am_s_iload rfl dc224_13.1.2.2 ?_
    refine am_s_iadd dc224_13.2.1.1 ?_
    refine am_s_iload rfl dc224_13.2.1.2 ?_
    refine am_s_aload_n rfl dc224_13.2.2.1 ?_
    refine am_x_getI (x := I 163 14) dc224_13.2.2.2 rfl rfl (Or.inl rfl) rfl ?_
    refine am_s_ic_ge dc224_14.1.1.1 rfl (fun c2 => ?_) (fun c2 => ?_)
    · refine am_s_iconst am_cc0 dc224_14.2.2.1 ?_
      refine am_s_iastore dc224_14.2.2.2 rfl ((vi_t (vi_f q c1) c2).1) rfl ?_
      refine am_s_iinc (ls' := [some (.ref 163), l1, l2, l3, some (.int x4), some (.int (x5 + 1))]) am_cc1 rfl rfl dc224_15.1 ?_
      refine am_s_goto rfl dc224_15.2.1 ?_
      exact (vi_t (vi_f q c1) c2).2
    · refine am_s_aload_n rfl dc224_14.1.1.2 ?_
      refine am_s_getR (r := 168) dc224_14.1.2.1 rfl rfl rfl (hp _ _ _ rfl) ?_
      refine am_s_iload rfl dc224_14.1.2.2 ?_
      refine am_x_iaload (x := I 168 (Int32.toNatClampNeg x5)) dc224_14.2.1.1 rfl ((vi_f (vi_f q c1) c2).1) rfl rfl ?_
      refine am_s_goto rfl dc224_14.2.1.2 ?_
      refine am_s_iastore dc224_14.2.2.2 rfl ((vi_f (vi_f q c1) c2).2.1) rfl ?_
      refine am_s_iinc (ls' := [some (.ref 163), l1, l2, l3, some (.int x4), some (.int (x5 + 1))]) am_cc1 rfl rfl dc224_15.1 ?_
      refine am_s_goto rfl dc224_15.2.1 ?_
      exact (vi_f (vi_f q c1) c2).2.2
theorem v224_4 {sc : Option (Nat × (Nat → Int32))} {d k n : Nat} {P : am_O → Prop} {I : am_I} {J : am_J} {Pf : am_R} (hp : am_PF Pf) {x1 : Int32} {x2 : Int32} {l3 : Option Value} {l4 : Option Value} {l5 : Option Value} {s0 : Int32} (q : (if s0 = 35 then (am_go sc (d + 1) 224 (48, [some (.ref 163), some (.int x1), some (.int x2), some (.int s0), some (.int (92 + (((4 * x1) + x2) * 11))), l5], [], (am_SH, I, J, Pf), k, n) P) else (if s0 = 64 then (am_go sc (d + 1) 224 (48, [some (.ref 163), some (.int x1), some (.int x2), some (.int s0), some (.int (92 + (((4 * x1) + x2) * 11))), l5], [], (am_SH, I, J, Pf), k, n) P) else (if s0 = 39 then (am_go sc (d + 1) 224 (48, [some (.ref 163), some (.int x1), some (.int x2), some (.int s0), some (.int (92 + (((4 * x1) + x2) * 11))), l5], [], (am_SH, I, J, Pf), k, n) P) else (if (I 163 5) = (-1) then (if (I 163 4) = (-1) then (am_mth (d + 1) 214 [.ref 163] (am_SH, am_u (am_u I 163 5 (I 163 4)) 163 6 1, J, Pf) (am_af sc (d + 1) 224 144 [some (.ref 163), some (.int x1), some (.int x2), some (.int s0), some (.int (92 + (((4 * x1) + x2) * 11))), l5] [.ref 163] [] (am_SH, am_u (am_u I 163 5 (I 163 4)) 163 6 1, J, Pf) k n true P)) else (P (.inl none, (am_SH, am_u (am_u I 163 5 (I 163 4)) 163 6 1, J, Pf), k, n))) else (P (.inl none, (am_SH, I, J, Pf), k, n))))))) : am_go sc (d + 1) 224 (4, [some (.ref 163), some (.int x1), some (.int x2), l3, l4, l5], [.int s0], (am_SH, I, J, Pf), k, n) P := by
  refine am_s_istore_n (ls' := [some (.ref 163), some (.int x1), some (.int x2), some (.int s0), l4, l5]) rfl rfl dc224_0.1.2.1 ?_
  refine am_s_bipush am_cb92 dc224_0.1.2.2 ?_
  refine am_s_iconst am_cc4 dc224_0.2.1.1 ?_
  refine am_s_iload_n rfl dc224_0.2.1.2 ?_
  refine am_s_imul dc224_0.2.2.1 ?_
  refine am_s_iload_n rfl dc224_0.2.2.2 ?_
  refine am_s_iadd dc224_1.1.1.1 ?_
  refine am_s_bipush am_cb11 dc224_1.1.1.2 ?_
  refine am_s_imul dc224_1.1.2.1 ?_
  refine am_s_iadd dc224_1.1.2.2 ?_
  refine am_s_istore (ls' := [some (.ref 163), some (.int x1), some (.int x2), some (.int s0), some (.int (92 + (((4 * x1) + x2) * 11))), l5]) rfl rfl dc224_1.2.1.1 ?_
  refine am_s_iload_n rfl dc224_1.2.1.2 ?_
  refine am_s_bipush am_cb35 dc224_1.2.2.1 ?_
  refine am_s_ic_eq dc224_1.2.2.2 rfl (fun c1 => ?_) (fun c1 => ?_)
  · exact (vi_t q c1)
  · refine am_s_iload_n rfl dc224_2.1.1.1 ?_
    refine am_s_bipush am_cb64 dc224_2.1.1.2 ?_
    refine am_s_ic_eq dc224_2.1.2.1 rfl (fun c2 => ?_) (fun c2 => ?_)
    · exact (vi_t (vi_f q c1) c2)
    · refine am_s_iload_n rfl dc224_2.1.2.2 ?_
      refine am_s_bipush am_cb39 dc224_2.2.1.1 ?_
      refine am_s_ic_eq dc224_2.2.1.2 rfl (fun c3 => ?_) (fun c3 => ?_)
      · exact (vi_t (vi_f (vi_f q c1) c2) c3)
      · refine am_s_aload_n rfl dc224_2.2.2.1 ?_
        refine am_s_iconst am_cc1 dc224_2.2.2.2 ?_
        refine am_s_aload_n rfl dc224_3.1.1.1 ?_
        refine am_x_getI (x := I 163 4) dc224_3.1.1.2 rfl rfl (Or.inl rfl) rfl ?_
        refine am_s_virtual true dc224_3.1.2.1 rfl (by decide) rfl rfl rfl (am_mth_of rfl rfl ?_)
        refine am_s_aload_n rfl dc194_0.1.1.1 ?_
        refine am_x_getI (x := I 163 5) dc194_0.1.1.2 rfl rfl (Or.inl rfl) rfl ?_
        refine am_s_iconst am_ccm1 dc194_0.1.2.1 ?_
        refine am_s_ic_eq dc194_0.1.2.2 rfl (fun c4 => ?_) (fun c4 => ?_)
        · refine am_s_aload_n rfl dc194_0.2.1.2 ?_
          refine am_s_iload_n rfl dc194_0.2.2.1 ?_
          refine am_s_putI dc194_0.2.2.2 rfl rfl rfl rfl ?_
          refine am_s_aload_n rfl dc194_1.1.1 ?_
          refine am_s_iload_n rfl dc194_1.1.2 ?_
          refine am_s_putI dc194_1.2.1 rfl rfl rfl rfl ?_
          refine am_s_return dc194_1.2.2 rfl (am_bkV ?_)
          refine am_s_goto rfl dc224_3.1.2.2 ?_
          refine am_s_aload_n rfl dc224_4.2.1.1 ?_
          refine am_s_virtual true dc224_4.2.1.2 rfl (by decide) rfl rfl rfl (am_mth_of rfl rfl ?_)
          refine am_s_aload_n rfl dc193_0.1.1.1 ?_
          refine am_x_getI (x := I 163 4) dc193_0.1.1.2 rfl rfl (Or.inl rfl) rfl ?_
          refine am_s_iconst am_ccm1 dc193_0.1.2.1 ?_
          refine am_s_ic_ne dc193_0.1.2.2 rfl (fun c5 => ?_) (fun c5 => ?_)
          · refine am_s_iconst am_cc0 dc193_0.2.2.1 ?_
            refine am_s_zreturn dc193_0.2.2.2 rfl (by decide) (am_bkI ?_)
            refine am_s_if_ne dc224_4.2.2.1 rfl (fun z => absurd z (by decide)) (fun _ => ?_)
            exact am_s_return dc224_4.2.2.2 rfl ((vi_f (vi_t (vi_f (vi_f (vi_f q c1) c2) c3) c4) c5))
          · refine am_s_iconst am_cc1 dc193_0.2.1.1 ?_
            refine am_s_goto rfl dc193_0.2.1.2 ?_
            refine am_s_zreturn dc193_0.2.2.2 rfl (by decide) (am_bkI ?_)
            refine am_s_if_ne dc224_4.2.2.1 rfl (fun _ => ?_) (fun z => absurd z (by decide))
            refine am_s_iload_n rfl dc224_5.1.1.1 ?_
            refine am_s_bipush am_cb35 dc224_5.1.1.2 ?_
            refine am_s_ic_ne dc224_5.1.2.1 rfl (fun _ => ?_) (fun z => absurd c1 z)
            refine am_s_iload_n rfl dc224_7.1.1.2 ?_
            refine am_s_bipush am_cb64 dc224_7.1.2.1 ?_
            refine am_s_ic_ne dc224_7.1.2.2 rfl (fun _ => ?_) (fun z => absurd c2 z)
            refine am_s_aload_n rfl dc224_10.1.2.1 ?_
            exact am_s_virtual true dc224_10.1.2.2 rfl (by decide) rfl rfl rfl ((vi_t (vi_t (vi_f (vi_f (vi_f q c1) c2) c3) c4) (Decidable.not_not.mp c5)))
        · refine am_s_return dc194_0.2.1.1 rfl (am_bkV ?_)
          refine am_s_goto rfl dc224_3.1.2.2 ?_
          refine am_s_aload_n rfl dc224_4.2.1.1 ?_
          refine am_s_virtual true dc224_4.2.1.2 rfl (by decide) rfl rfl rfl (am_mth_of rfl rfl ?_)
          refine am_s_aload_n rfl dc193_0.1.1.1 ?_
          refine am_x_getI (x := I 163 5) dc193_0.1.1.2 rfl rfl (Or.inl rfl) rfl ?_
          refine am_s_iconst am_ccm1 dc193_0.1.2.1 ?_
          refine am_s_ic_ne dc193_0.1.2.2 rfl (fun _ => ?_) (fun z => absurd c4 z)
          refine am_s_iconst am_cc0 dc193_0.2.2.1 ?_
          refine am_s_zreturn dc193_0.2.2.2 rfl (by decide) (am_bkI ?_)
          refine am_s_if_ne dc224_4.2.2.1 rfl (fun z => absurd z (by decide)) (fun _ => ?_)
          exact am_s_return dc224_4.2.2.2 rfl ((vi_f (vi_f (vi_f (vi_f q c1) c2) c3) c4))
theorem v224_96 {sc : Option (Nat × (Nat → Int32))} {d k n : Nat} {P : am_O → Prop} {I : am_I} {J : am_J} {Pf : am_R} (hp : am_PF Pf) {l0 : Option Value} {l1 : Option Value} {l2 : Option Value} {l3 : Option Value} {l4 : Option Value} {l5 : Option Value} {s1 : Int32} {s2 : Int32} (q : (am_in s1 1040 = true) ∧ (P (.inl none, (am_SH, am_u I 166 (Int32.toNatClampNeg s1) s2, J, Pf), k, n))) : am_go sc d 224 (96, [l0, l1, l2, l3, l4, l5], [.int s2, .int s1, .ref 166], (am_SH, I, J, Pf), k, n) P := by
  refine am_s_iastore dc224_6.2.2.2 rfl (q.1) rfl ?_
  refine am_s_goto rfl dc224_7.1.1.1 ?_
  exact am_s_return dc224_15.2.2 rfl (q.2)
theorem v224_139 {sc : Option (Nat × (Nat → Int32))} {d k n : Nat} {P : am_O → Prop} {I : am_I} {J : am_J} {Pf : am_R} (hp : am_PF Pf) {l0 : Option Value} {l1 : Option Value} {l2 : Option Value} {l3 : Option Value} {l4 : Option Value} {l5 : Option Value} {s1 : Int32} {s2 : Int32} (q : (am_in s1 1040 = true) ∧ (P (.inl none, (am_SH, am_u I 166 (Int32.toNatClampNeg s1) s2, J, Pf), k, n))) : am_go sc d 224 (139, [l0, l1, l2, l3, l4, l5], [.int s2, .int s1, .ref 166], (am_SH, I, J, Pf), k, n) P := by
  refine am_s_iastore dc224_10.1.1.1 rfl (q.1) rfl ?_
  refine am_s_goto rfl dc224_10.1.1.2 ?_
  exact am_s_return dc224_15.2.2 rfl (q.2)
theorem v224_147 {sc : Option (Nat × (Nat → Int32))} {d k n : Nat} {P : am_O → Prop} {I : am_I} {J : am_J} {Pf : am_R} (hp : am_PF Pf) {l1 : Option Value} {l2 : Option Value} {l3 : Option Value} {x4 : Int32} {l5 : Option Value} (q : (am_in x4 1040 = true) ∧ (am_in (x4 + 2) 1040 = true) ∧ (am_go sc d 224 (171, [some (.ref 163), l1, l2, l3, some (.int x4), some (.int 0)], [], (am_SH, am_u (am_u I 166 (Int32.toNatClampNeg x4) 2) 166 (Int32.toNatClampNeg (x4 + 2)) (I 163 14), J, Pf), k, n) P)) : am_go sc d 224 (147, [some (.ref 163), l1, l2, l3, some (.int x4), l5], [], (am_SH, I, J, Pf), k, n) P := by
  refine am_s_aload_n rfl dc224_10.2.1.1 ?_
  refine am_s_getR (r := 166) dc224_10.2.1.2 rfl rfl rfl (hp _ _ _ rfl) ?_
  refine am_s_iload rfl dc224_10.2.2.1 ?_
  refine am_s_iconst am_cc2 dc224_10.2.2.2 ?_
  refine am_s_iastore dc224_11.1.1.1 rfl (q.1) rfl ?_
  refine am_s_aload_n rfl dc224_11.1.1.2 ?_
  refine am_s_getR (r := 166) dc224_11.1.2.1 rfl rfl rfl (hp _ _ _ rfl) ?_
  refine am_s_iload rfl dc224_11.1.2.2 ?_
  refine am_s_iconst am_cc2 dc224_11.2.1.1 ?_
  refine am_s_iadd dc224_11.2.1.2 ?_
  refine am_s_aload_n rfl dc224_11.2.2.1 ?_
  refine am_x_getI (x := I 163 14) dc224_11.2.2.2 rfl rfl (Or.inl rfl) rfl ?_
  refine am_s_iastore dc224_12.1.1.1 rfl (q.2.1) rfl ?_
  refine am_s_iconst am_cc0 dc224_12.1.1.2 ?_
  refine am_s_istore (ls' := [some (.ref 163), l1, l2, l3, some (.int x4), some (.int 0)]) rfl rfl dc224_12.1.2.1 ?_
  exact q.2.2
-- readProduction (II)V
theorem v225_0 {sc : Option (Nat × (Nat → Int32))} {d k n : Nat} {P : am_O → Prop} {I : am_I} {J : am_J} {Pf : am_R} (hp : am_PF Pf) {x1 : Int32} {x2 : Int32} {l3 : Option Value} {l4 : Option Value} (q : (am_mth d 201 [.ref 163, .int 0, .int 7] (am_SH, I, J, Pf) (am_af sc d 225 16 [some (.ref 163), some (.int x1), some (.int x2), some (.int (32 + (3 * x1))), l4] [.int 7, .int 0, .ref 163, .int (32 + (3 * x1)), .ref 166] [.int (32 + (3 * x1)), .ref 166] (am_SH, I, J, Pf) k n true P))) : am_go sc d 225 (0, [some (.ref 163), some (.int x1), some (.int x2), l3, l4], [], (am_SH, I, J, Pf), k, n) P := by
  refine am_s_bipush am_cb32 dc225_0.1.1.1 ?_
  refine am_s_iconst am_cc3 dc225_0.1.1.2 ?_
  refine am_s_iload_n rfl dc225_0.1.2.1 ?_
  refine am_s_imul dc225_0.1.2.2 ?_
  refine am_s_iadd dc225_0.2.1.1 ?_
  refine am_s_istore_n (ls' := [some (.ref 163), some (.int x1), some (.int x2), some (.int (32 + (3 * x1))), l4]) rfl rfl dc225_0.2.1.2 ?_
  refine am_s_aload_n rfl dc225_0.2.2.1 ?_
  refine am_s_getR (r := 166) dc225_0.2.2.2 rfl rfl rfl (hp _ _ _ rfl) ?_
  refine am_s_iload_n rfl dc225_1.1.1.1 ?_
  refine am_s_aload_n rfl dc225_1.1.1.2 ?_
  refine am_s_iconst am_cc0 dc225_1.1.2.1 ?_
  refine am_s_bipush am_cb7 dc225_1.1.2.2 ?_
  exact am_s_virtual true dc225_1.2.1.1 rfl (by decide) rfl rfl rfl (q)
theorem v225_32 {sc : Option (Nat × (Nat → Int32))} {d k n : Nat} {P : am_O → Prop} {I : am_I} {J : am_J} {Pf : am_R} (hp : am_PF Pf) {x1 : Int32} {l2 : Option Value} {x3 : Int32} {x4 : Int32} (q : (if (I 163 5) = (-1) then (am_mth (d + 1) 195 [.ref 163] (am_SH, I, J, Pf) (am_af sc (d + 1) 225 40 [some (.ref 163), some (.int x1), l2, some (.int x3), some (.int x4)] [.ref 163] [] (am_SH, I, J, Pf) k n true P)) else (am_go sc (d + 1) 225 (61, [some (.ref 163), some (.int x1), l2, some (.int x3), some (.int x4)], [], (am_SH, I, J, Pf), k, n) P))) : am_go sc (d + 1) 225 (32, [some (.ref 163), some (.int x1), l2, some (.int x3), some (.int x4)], [], (am_SH, I, J, Pf), k, n) P := by
  refine am_s_aload_n rfl dc225_2.2.2.2 ?_
  refine am_s_virtual true dc225_3.1.1.1 rfl (by decide) rfl rfl rfl (am_mth_of rfl rfl ?_)
  refine am_s_aload_n rfl dc193_0.1.1.1 ?_
  refine am_x_getI (x := I 163 5) dc193_0.1.1.2 rfl rfl (Or.inl rfl) rfl ?_
  refine am_s_iconst am_ccm1 dc193_0.1.2.1 ?_
  refine am_s_ic_ne dc193_0.1.2.2 rfl (fun c1 => ?_) (fun c1 => ?_)
  · refine am_s_iconst am_cc0 dc193_0.2.2.1 ?_
    refine am_s_zreturn dc193_0.2.2.2 rfl (by decide) (am_bkI ?_)
    refine am_s_if_eq dc225_3.1.1.2 rfl (fun _ => ?_) (fun z => absurd z (by decide))
    exact (vi_f q c1)
  · refine am_s_iconst am_cc1 dc193_0.2.1.1 ?_
    refine am_s_goto rfl dc193_0.2.1.2 ?_
    refine am_s_zreturn dc193_0.2.2.2 rfl (by decide) (am_bkI ?_)
    refine am_s_if_eq dc225_3.1.1.2 rfl (fun z => absurd z (by decide)) (fun _ => ?_)
    refine am_s_aload_n rfl dc225_3.1.2.1 ?_
    exact am_s_virtual true dc225_3.1.2.2 rfl (by decide) rfl rfl rfl ((vi_t q (Decidable.not_not.mp c1)))
theorem v225_61 {sc : Option (Nat × (Nat → Int32))} {d k n : Nat} {P : am_O → Prop} {I : am_I} {J : am_J} {Pf : am_R} (hp : am_PF Pf) {l1 : Option Value} {l2 : Option Value} {x3 : Int32} {x4 : Int32} (q : (am_in (x3 + 2) 1040 = true) ∧ (P (.inl none, (am_SH, am_u I 166 (Int32.toNatClampNeg (x3 + 2)) x4, J, Pf), k, n))) : am_go sc d 225 (61, [some (.ref 163), l1, l2, some (.int x3), some (.int x4)], [], (am_SH, I, J, Pf), k, n) P := by
  refine am_s_aload_n rfl dc225_4.2.1.1 ?_
  refine am_s_getR (r := 166) dc225_4.2.1.2 rfl rfl rfl (hp _ _ _ rfl) ?_
  refine am_s_iload_n rfl dc225_4.2.2.1 ?_
  refine am_s_iconst am_cc2 dc225_4.2.2.2 ?_
  refine am_s_iadd dc225_5.1.1 ?_
  refine am_s_iload rfl dc225_5.1.2 ?_
  refine am_s_iastore dc225_5.2.1 rfl (q.1) rfl ?_
  exact am_s_return dc225_5.2.2 rfl (q.2)
theorem v225_19 {sc : Option (Nat × (Nat → Int32))} {d k n : Nat} {P : am_O → Prop} {I : am_I} {J : am_J} {Pf : am_R} (hp : am_PF Pf) {x1 : Int32} {x2 : Int32} {x3 : Int32} {l4 : Option Value} {s1 : Int32} {s2 : Int32} (q : (am_in s1 1040 = true) ∧ (am_in (x3 + 1) 1040 = true) ∧ (am_go sc d 225 (32, [some (.ref 163), some (.int x1), some (.int x2), some (.int x3), some (.int 0)], [], (am_SH, am_u (am_u I 166 (Int32.toNatClampNeg s1) s2) 166 (Int32.toNatClampNeg (x3 + 1)) x2, J, Pf), k, n) P)) : am_go sc d 225 (19, [some (.ref 163), some (.int x1), some (.int x2), some (.int x3), l4], [.int s2, .int s1, .ref 166], (am_SH, I, J, Pf), k, n) P := by
  refine am_s_iastore dc225_1.2.1.2 rfl (q.1) rfl ?_
  refine am_s_aload_n rfl dc225_1.2.2.1 ?_
  refine am_s_getR (r := 166) dc225_1.2.2.2 rfl rfl rfl (hp _ _ _ rfl) ?_
  refine am_s_iload_n rfl dc225_2.1.1.1 ?_
  refine am_s_iconst am_cc1 dc225_2.1.1.2 ?_
  refine am_s_iadd dc225_2.1.2.1 ?_
  refine am_s_iload_n rfl dc225_2.1.2.2 ?_
  refine am_s_iastore dc225_2.2.1.1 rfl (q.2.1) rfl ?_
  refine am_s_iconst am_cc0 dc225_2.2.1.2 ?_
  refine am_s_istore (ls' := [some (.ref 163), some (.int x1), some (.int x2), some (.int x3), some (.int 0)]) rfl rfl dc225_2.2.2.1 ?_
  exact q.2.2
theorem v225_43 {sc : Option (Nat × (Nat → Int32))} {d k n : Nat} {P : am_O → Prop} {I : am_I} {J : am_J} {Pf : am_R} (hp : am_PF Pf) {x1 : Int32} {l2 : Option Value} {x3 : Int32} {x4 : Int32} {s0 : Int32} (q : (if s0 = 59 then (am_go sc d 225 (61, [some (.ref 163), some (.int x1), l2, some (.int x3), some (.int x4)], [], (am_SH, I, J, Pf), k, n) P) else (am_mth d 224 [.ref 163, .int x1, .int x4] (am_SH, I, J, Pf) (am_af sc d 225 52 [some (.ref 163), some (.int x1), l2, some (.int x3), some (.int x4)] [.int x4, .int x1, .ref 163] [] (am_SH, I, J, Pf) k n true P)))) : am_go sc d 225 (43, [some (.ref 163), some (.int x1), l2, some (.int x3), some (.int x4)], [.int s0], (am_SH, I, J, Pf), k, n) P := by
  refine am_s_bipush am_cb59 dc225_3.2.1.1 ?_
  refine am_s_ic_eq dc225_3.2.1.2 rfl (fun c1 => ?_) (fun c1 => ?_)
  · exact (vi_t q c1)
  · refine am_s_aload_n rfl dc225_3.2.2.1 ?_
    refine am_s_iload_n rfl dc225_3.2.2.2 ?_
    refine am_s_iload rfl dc225_4.1.1.1 ?_
    exact am_s_virtual true dc225_4.1.1.2 rfl (by decide) rfl rfl rfl ((vi_f q c1))
theorem v225_55 {sc : Option (Nat × (Nat → Int32))} {d k n : Nat} {P : am_O → Prop} {I : am_I} {J : am_J} {Pf : am_R} (hp : am_PF Pf) {x1 : Int32} {l2 : Option Value} {x3 : Int32} {x4 : Int32} (q : (am_go sc d 225 (32, [some (.ref 163), some (.int x1), l2, some (.int x3), some (.int (x4 + 1))], [], (am_SH, I, J, Pf), k, n) P)) : am_go sc d 225 (55, [some (.ref 163), some (.int x1), l2, some (.int x3), some (.int x4)], [], (am_SH, I, J, Pf), k, n) P := by
  refine am_s_iinc (ls' := [some (.ref 163), some (.int x1), l2, some (.int x3), some (.int (x4 + 1))]) am_cc1 rfl rfl dc225_4.1.2.1 ?_
  refine am_s_goto rfl dc225_4.1.2.2 ?_
  exact q
-- readQuote (I)V
theorem v226_0 {sc : Option (Nat × (Nat → Int32))} {d k n : Nat} {P : am_O → Prop} {I : am_I} {J : am_J} {Pf : am_R} (hp : am_PF Pf) {x1 : Int32} {l2 : Option Value} {l3 : Option Value} (q : (am_mth d 201 [.ref 163, .int 0, .int 7] (am_SH, I, J, Pf) (am_af sc d 226 17 [some (.ref 163), some (.int x1), some (.int (972 + (5 * x1))), l3] [.int 7, .int 0, .ref 163, .int (972 + (5 * x1)), .ref 166] [.int (972 + (5 * x1)), .ref 166] (am_SH, I, J, Pf) k n true P))) : am_go sc d 226 (0, [some (.ref 163), some (.int x1), l2, l3], [], (am_SH, I, J, Pf), k, n) P := by
  refine am_s_sipush am_cs972 dc226_0.1.1.1 ?_
  refine am_s_iconst am_cc5 dc226_0.1.1.2 ?_
  refine am_s_iload_n rfl dc226_0.1.2.1 ?_
  refine am_s_imul dc226_0.1.2.2 ?_
  refine am_s_iadd dc226_0.2.1.1 ?_
  refine am_s_istore_n (ls' := [some (.ref 163), some (.int x1), some (.int (972 + (5 * x1))), l3]) rfl rfl dc226_0.2.1.2 ?_
  refine am_s_aload_n rfl dc226_0.2.2.1 ?_
  refine am_s_getR (r := 166) dc226_0.2.2.2 rfl rfl rfl (hp _ _ _ rfl) ?_
  refine am_s_iload_n rfl dc226_1.1.1.1 ?_
  refine am_s_aload_n rfl dc226_1.1.1.2 ?_
  refine am_s_iconst am_cc0 dc226_1.1.2.1 ?_
  refine am_s_bipush am_cb7 dc226_1.1.2.2 ?_
  exact am_s_virtual true dc226_1.2.1.1 rfl (by decide) rfl rfl rfl (q)
theorem v226_64 {sc : Option (Nat × (Nat → Int32))} {d k n : Nat} {P : am_O → Prop} {I : am_I} {J : am_J} {Pf : am_R} (hp : am_PF Pf) {l1 : Option Value} {x2 : Int32} {l3 : Option Value} (q : (if (I 163 5) = (-1) then (if (I 168 2) = (I 168 0) then (am_go sc (d + 1) 226 (101, [some (.ref 163), l1, some (.int x2), l3], [], (am_SH, I, J, Pf), k, n) P) else (if (I 168 2) = (I 168 1) then (am_go sc (d + 1) 226 (101, [some (.ref 163), l1, some (.int x2), l3], [], (am_SH, I, J, Pf), k, n) P) else (am_go sc (d + 1) 226 (110, [some (.ref 163), l1, some (.int x2), l3], [], (am_SH, I, J, Pf), k, n) P))) else (am_go sc (d + 1) 226 (110, [some (.ref 163), l1, some (.int x2), l3], [], (am_SH, I, J, Pf), k, n) P))) : am_go sc (d + 1) 226 (64, [some (.ref 163), l1, some (.int x2), l3], [], (am_SH, I, J, Pf), k, n) P := by
  refine am_s_aload_n rfl dc226_4.2.2.1 ?_
  refine am_s_virtual true dc226_4.2.2.2 rfl (by decide) rfl rfl rfl (am_mth_of rfl rfl ?_)
  refine am_s_aload_n rfl dc193_0.1.1.1 ?_
  refine am_x_getI (x := I 163 5) dc193_0.1.1.2 rfl rfl (Or.inl rfl) rfl ?_
  refine am_s_iconst am_ccm1 dc193_0.1.2.1 ?_
  refine am_s_ic_ne dc193_0.1.2.2 rfl (fun c1 => ?_) (fun c1 => ?_)
  · refine am_s_iconst am_cc0 dc193_0.2.2.1 ?_
    refine am_s_zreturn dc193_0.2.2.2 rfl (by decide) (am_bkI ?_)
    refine am_s_if_eq dc226_5.1.1.1 rfl (fun _ => ?_) (fun z => absurd z (by decide))
    exact (vi_f q c1)
  · refine am_s_iconst am_cc1 dc193_0.2.1.1 ?_
    refine am_s_goto rfl dc193_0.2.1.2 ?_
    refine am_s_zreturn dc193_0.2.2.2 rfl (by decide) (am_bkI ?_)
    refine am_s_if_eq dc226_5.1.1.1 rfl (fun z => absurd z (by decide)) (fun _ => ?_)
    refine am_s_aload_n rfl dc226_5.1.1.2 ?_
    refine am_s_getR (r := 168) dc226_5.1.2.1 rfl rfl rfl (hp _ _ _ rfl) ?_
    refine am_s_iconst am_cc2 dc226_5.1.2.2 ?_
    refine am_x_iaload (x := I 168 2) dc226_5.2.1.1 rfl (by decide +kernel) am_cN2 rfl ?_
    refine am_s_aload_n rfl dc226_5.2.1.2 ?_
    refine am_s_getR (r := 168) dc226_5.2.2.1 rfl rfl rfl (hp _ _ _ rfl) ?_
    refine am_s_iconst am_cc0 dc226_5.2.2.2 ?_
    refine am_x_iaload (x := I 168 0) dc226_6.1.1.1 rfl (by decide +kernel) am_cN0 rfl ?_
    refine am_s_ic_eq dc226_6.1.1.2 rfl (fun c2 => ?_) (fun c2 => ?_)
    · exact (vi_t (vi_t q (Decidable.not_not.mp c1)) c2)
    · refine am_s_aload_n rfl dc226_6.1.2.1 ?_
      refine am_s_getR (r := 168) dc226_6.1.2.2 rfl rfl rfl (hp _ _ _ rfl) ?_
      refine am_s_iconst am_cc2 dc226_6.2.1.1 ?_
      refine am_x_iaload (x := I 168 2) dc226_6.2.1.2 rfl (by decide +kernel) am_cN2 rfl ?_
      refine am_s_aload_n rfl dc226_6.2.2.1 ?_
      refine am_s_getR (r := 168) dc226_6.2.2.2 rfl rfl rfl (hp _ _ _ rfl) ?_
      refine am_s_iconst am_cc1 dc226_7.1.1.1 ?_
      refine am_x_iaload (x := I 168 1) dc226_7.1.1.2 rfl (by decide +kernel) am_cN1 rfl ?_
      refine am_s_ic_ne dc226_7.1.2.1 rfl (fun c3 => ?_) (fun c3 => ?_)
      · exact (vi_f (vi_f (vi_t q (Decidable.not_not.mp c1)) c2) c3)
      · exact (vi_t (vi_f (vi_t q (Decidable.not_not.mp c1)) c2) (Decidable.not_not.mp c3))
theorem v226_101 {sc : Option (Nat × (Nat → Int32))} {d k n : Nat} {P : am_O → Prop} {I : am_I} {J : am_J} {Pf : am_R} (hp : am_PF Pf) {l1 : Option Value} {x2 : Int32} {l3 : Option Value} (q : (if (I 163 5) = (-1) then (am_go sc (d + 1) 226 (110, [some (.ref 163), l1, some (.int x2), l3], [], (am_SH, am_u (am_u I 163 5 (I 163 15)) 163 6 2, J, Pf), k, n) P) else (am_go sc (d + 1) 226 (110, [some (.ref 163), l1, some (.int x2), l3], [], (am_SH, I, J, Pf), k, n) P))) : am_go sc (d + 1) 226 (101, [some (.ref 163), l1, some (.int x2), l3], [], (am_SH, I, J, Pf), k, n) P := by
  refine am_s_aload_n rfl dc226_7.1.2.2 ?_
  refine am_s_iconst am_cc2 dc226_7.2.1.1 ?_
  refine am_s_aload_n rfl dc226_7.2.1.2 ?_
  refine am_x_getI (x := I 163 15) dc226_7.2.2.1 rfl rfl (Or.inl rfl) rfl ?_
  refine am_s_virtual true dc226_7.2.2.2 rfl (by decide) rfl rfl rfl (am_mth_of rfl rfl ?_)
  refine am_s_aload_n rfl dc194_0.1.1.1 ?_
  refine am_x_getI (x := I 163 5) dc194_0.1.1.2 rfl rfl (Or.inl rfl) rfl ?_
  refine am_s_iconst am_ccm1 dc194_0.1.2.1 ?_
  refine am_s_ic_eq dc194_0.1.2.2 rfl (fun c1 => ?_) (fun c1 => ?_)
  · refine am_s_aload_n rfl dc194_0.2.1.2 ?_
    refine am_s_iload_n rfl dc194_0.2.2.1 ?_
    refine am_s_putI dc194_0.2.2.2 rfl rfl rfl rfl ?_
    refine am_s_aload_n rfl dc194_1.1.1 ?_
    refine am_s_iload_n rfl dc194_1.1.2 ?_
    refine am_s_putI dc194_1.2.1 rfl rfl rfl rfl ?_
    refine am_s_return dc194_1.2.2 rfl (am_bkV ?_)
    exact (vi_t q c1)
  · refine am_s_return dc194_0.2.1.1 rfl (am_bkV ?_)
    exact (vi_f q c1)
theorem v226_110 {sc : Option (Nat × (Nat → Int32))} {d k n : Nat} {P : am_O → Prop} {I : am_I} {J : am_J} {Pf : am_R} (hp : am_PF Pf) {l1 : Option Value} {x2 : Int32} {l3 : Option Value} (q : (am_go sc d 226 (112, [some (.ref 163), l1, some (.int x2), some (.int 0)], [], (am_SH, I, J, Pf), k, n) P)) : am_go sc d 226 (110, [some (.ref 163), l1, some (.int x2), l3], [], (am_SH, I, J, Pf), k, n) P := by
  refine am_s_iconst am_cc0 dc226_8.1.1.1 ?_
  refine am_s_istore_n (ls' := [some (.ref 163), l1, some (.int x2), some (.int 0)]) rfl rfl dc226_8.1.1.2 ?_
  exact q
theorem v226_112 {sc : Option (Nat × (Nat → Int32))} {d k n : Nat} {P : am_O → Prop} {I : am_I} {J : am_J} {Pf : am_R} (hp : am_PF Pf) {l1 : Option Value} {x2 : Int32} {x3 : Int32} (q : (if 3 ≤ x3 then (P (.inl none, (am_SH, I, J, Pf), k, n)) else (am_in x3 600 = true) ∧ (am_in ((x2 + 2) + x3) 1040 = true) ∧ (am_go sc d 226 (112, [some (.ref 163), l1, some (.int x2), some (.int (x3 + 1))], [], (am_SH, am_u I 166 (Int32.toNatClampNeg ((x2 + 2) + x3)) (I 168 (Int32.toNatClampNeg x3)), J, Pf), k, n) P))) : am_go sc d 226 (112, [some (.ref 163), l1, some (.int x2), some (.int x3)], [], (am_SH, I, J, Pf), k, n) P := by
  refine am_s_iload_n rfl dc226_8.1.2.1 ?_
  refine am_s_iconst am_cc3 dc226_8.1.2.2 ?_
  refine am_s_ic_ge dc226_8.2.1.1 rfl (fun c1 => ?_) (fun c1 => ?_)
  · exact am_s_return dc226_10.2.2 rfl ((vi_t q c1))
  · refine am_s_aload_n rfl dc226_8.2.1.2 ?_
    refine am_s_getR (r := 166) dc226_8.2.2.1 rfl rfl rfl (hp _ _ _ rfl) ?_
    refine am_s_iload_n rfl dc226_8.2.2.2 ?_
    refine am_s_iconst am_cc2 dc226_9.1.1.1 ?_
    refine am_s_iadd dc226_9.1.1.2 ?_
    refine am_s_iload_n rfl dc226_9.1.2.1 ?_
    refine am_s_iadd dc226_9.1.2.2 ?_
    refine am_s_aload_n rfl dc226_9.2.1.1 ?_
    refine am_s_getR (r := 168) dc226_9.2.1.2 rfl rfl rfl (hp _ _ _ rfl) ?_
    refine am_s_iload_n rfl dc226_9.2.2.1 ?_
    refine am_x_iaload (x := I 168 (Int32.toNatClampNeg x3)) dc226_9.2.2.2 rfl ((vi_f q c1).1) rfl rfl ?_
    refine am_s_iastore dc226_10.1.1 rfl ((vi_f q c1).2.1) rfl ?_
    refine am_s_iinc (ls' := [some (.ref 163), l1, some (.int x2), some (.int (x3 + 1))]) am_cc1 rfl rfl dc226_10.1.2 ?_
    refine am_s_goto rfl dc226_10.2.1 ?_
    exact (vi_f q c1).2.2
theorem v226_20 {sc : Option (Nat × (Nat → Int32))} {d k n : Nat} {P : am_O → Prop} {I : am_I} {J : am_J} {Pf : am_R} (hp : am_PF Pf) {l1 : Option Value} {x2 : Int32} {l3 : Option Value} {s1 : Int32} {s2 : Int32} (q : (am_in s1 1040 = true) ∧ (am_mth d 201 [.ref 163, .int 0, .int 7] (am_SH, am_u I 166 (Int32.toNatClampNeg s1) s2, J, Pf) (am_af sc d 226 32 [some (.ref 163), l1, some (.int x2), l3] [.int 7, .int 0, .ref 163, .int (x2 + 1), .ref 166] [.int (x2 + 1), .ref 166] (am_SH, am_u I 166 (Int32.toNatClampNeg s1) s2, J, Pf) k n true P))) : am_go sc d 226 (20, [some (.ref 163), l1, some (.int x2), l3], [.int s2, .int s1, .ref 166], (am_SH, I, J, Pf), k, n) P := by
  refine am_s_iastore dc226_1.2.1.2 rfl (q.1) rfl ?_
  refine am_s_aload_n rfl dc226_1.2.2.1 ?_
  refine am_s_getR (r := 166) dc226_1.2.2.2 rfl rfl rfl (hp _ _ _ rfl) ?_
  refine am_s_iload_n rfl dc226_2.1.1.1 ?_
  refine am_s_iconst am_cc1 dc226_2.1.1.2 ?_
  refine am_s_iadd dc226_2.1.2.1 ?_
  refine am_s_aload_n rfl dc226_2.1.2.2 ?_
  refine am_s_iconst am_cc0 dc226_2.2.1.1 ?_
  refine am_s_bipush am_cb7 dc226_2.2.1.2 ?_
  exact am_s_virtual true dc226_2.2.2.1 rfl (by decide) rfl rfl rfl (q.2)
theorem v226_35 {sc : Option (Nat × (Nat → Int32))} {d k n : Nat} {P : am_O → Prop} {I : am_I} {J : am_J} {Pf : am_R} (hp : am_PF Pf) {l1 : Option Value} {x2 : Int32} {l3 : Option Value} {s1 : Int32} {s2 : Int32} (q : (am_in s1 1040 = true) ∧ (am_mth d 213 [.ref 163] (am_SH, am_u I 166 (Int32.toNatClampNeg s1) s2, J, Pf) (am_af sc d 226 37 [some (.ref 163), l1, some (.int x2), l3] [.ref 163] [] (am_SH, am_u I 166 (Int32.toNatClampNeg s1) s2, J, Pf) k n true P))) : am_go sc d 226 (35, [some (.ref 163), l1, some (.int x2), l3], [.int s2, .int s1, .ref 166], (am_SH, I, J, Pf), k, n) P := by
  refine am_s_iastore dc226_2.2.2.2 rfl (q.1) rfl ?_
  refine am_s_aload_n rfl dc226_3.1.1.1 ?_
  exact am_s_virtual true dc226_3.1.1.2 rfl (by decide) rfl rfl rfl (q.2)
theorem v226_40 {sc : Option (Nat × (Nat → Int32))} {d k n : Nat} {P : am_O → Prop} {I : am_I} {J : am_J} {Pf : am_R} (hp : am_PF Pf) {l1 : Option Value} {x2 : Int32} {l3 : Option Value} (q : (if (I 163 5) = (-1) then (if (I 163 14) = 3 then (am_go sc (d + 1) 226 (64, [some (.ref 163), l1, some (.int x2), l3], [], (am_SH, I, J, Pf), k, n) P) else (am_go sc (d + 1) 226 (64, [some (.ref 163), l1, some (.int x2), l3], [], (am_SH, am_u (am_u I 163 5 (I 163 16)) 163 6 2, J, Pf), k, n) P)) else (am_go sc (d + 1) 226 (64, [some (.ref 163), l1, some (.int x2), l3], [], (am_SH, I, J, Pf), k, n) P))) : am_go sc (d + 1) 226 (40, [some (.ref 163), l1, some (.int x2), l3], [], (am_SH, I, J, Pf), k, n) P := by
  refine am_s_aload_n rfl dc226_3.1.2.1 ?_
  refine am_s_virtual true dc226_3.1.2.2 rfl (by decide) rfl rfl rfl (am_mth_of rfl rfl ?_)
  refine am_s_aload_n rfl dc193_0.1.1.1 ?_
  refine am_x_getI (x := I 163 5) dc193_0.1.1.2 rfl rfl (Or.inl rfl) rfl ?_
  refine am_s_iconst am_ccm1 dc193_0.1.2.1 ?_
  refine am_s_ic_ne dc193_0.1.2.2 rfl (fun c1 => ?_) (fun c1 => ?_)
  · refine am_s_iconst am_cc0 dc193_0.2.2.1 ?_
    refine am_s_zreturn dc193_0.2.2.2 rfl (by decide) (am_bkI ?_)
    refine am_s_if_eq dc226_3.2.1.1 rfl (fun _ => ?_) (fun z => absurd z (by decide))
    exact (vi_f q c1)
  · refine am_s_iconst am_cc1 dc193_0.2.1.1 ?_
    refine am_s_goto rfl dc193_0.2.1.2 ?_
    refine am_s_zreturn dc193_0.2.2.2 rfl (by decide) (am_bkI ?_)
    refine am_s_if_eq dc226_3.2.1.1 rfl (fun z => absurd z (by decide)) (fun _ => ?_)
    refine am_s_aload_n rfl dc226_3.2.1.2 ?_
    refine am_x_getI (x := I 163 14) dc226_3.2.2.1 rfl rfl (Or.inl rfl) rfl ?_
    refine am_s_iconst am_cc3 dc226_3.2.2.2 ?_
    refine am_s_ic_eq dc226_4.1.1.1 rfl (fun c2 => ?_) (fun c2 => ?_)
    · exact (vi_t (vi_t q (Decidable.not_not.mp c1)) c2)
    · refine am_s_aload_n rfl dc226_4.1.1.2 ?_
      refine am_s_iconst am_cc2 dc226_4.1.2.1 ?_
      refine am_s_aload_n rfl dc226_4.1.2.2 ?_
      refine am_x_getI (x := I 163 16) dc226_4.2.1.1 rfl rfl (Or.inl rfl) rfl ?_
      refine am_s_virtual true dc226_4.2.1.2 rfl (by decide) rfl rfl rfl (am_mth_of rfl rfl ?_)
      refine am_s_aload_n rfl dc194_0.1.1.1 ?_
      refine am_x_getI (x := I 163 5) dc194_0.1.1.2 rfl rfl (Or.inl rfl) rfl ?_
      refine am_s_iconst am_ccm1 dc194_0.1.2.1 ?_
      refine am_s_ic_eq dc194_0.1.2.2 rfl (fun _ => ?_) (fun z => absurd z c1)
      refine am_s_aload_n rfl dc194_0.2.1.2 ?_
      refine am_s_iload_n rfl dc194_0.2.2.1 ?_
      refine am_s_putI dc194_0.2.2.2 rfl rfl rfl rfl ?_
      refine am_s_aload_n rfl dc194_1.1.1 ?_
      refine am_s_iload_n rfl dc194_1.1.2 ?_
      refine am_s_putI dc194_1.2.1 rfl rfl rfl rfl ?_
      refine am_s_return dc194_1.2.2 rfl (am_bkV ?_)
      exact (vi_f (vi_t q (Decidable.not_not.mp c1)) c2)
-- readDrop (III)V
theorem v227_0 {sc : Option (Nat × (Nat → Int32))} {d k n : Nat} {P : am_O → Prop} {I : am_I} {J : am_J} {Pf : am_R} (hp : am_PF Pf) {x1 : Int32} {x2 : Int32} {x3 : Int32} {l4 : Option Value} {l5 : Option Value} (q : (am_mth d 201 [.ref 163, .int 0, .int 7] (am_SH, I, J, Pf) (am_af sc d 227 19 [some (.ref 163), some (.int x1), some (.int x2), some (.int x3), some (.int (1008 + (4 * x1))), l5] [.int 7, .int 0, .ref 163, .int (1008 + (4 * x1)), .ref 166] [.int (1008 + (4 * x1)), .ref 166] (am_SH, I, J, Pf) k n true P))) : am_go sc d 227 (0, [some (.ref 163), some (.int x1), some (.int x2), some (.int x3), l4, l5], [], (am_SH, I, J, Pf), k, n) P := by
  refine am_s_sipush am_cs1008 dc227_0.1.1.1 ?_
  refine am_s_iconst am_cc4 dc227_0.1.1.2 ?_
  refine am_s_iload_n rfl dc227_0.1.2.1 ?_
  refine am_s_imul dc227_0.1.2.2 ?_
  refine am_s_iadd dc227_0.2.1.1 ?_
  refine am_s_istore (ls' := [some (.ref 163), some (.int x1), some (.int x2), some (.int x3), some (.int (1008 + (4 * x1))), l5]) rfl rfl dc227_0.2.1.2 ?_
  refine am_s_aload_n rfl dc227_0.2.2.1 ?_
  refine am_s_getR (r := 166) dc227_0.2.2.2 rfl rfl rfl (hp _ _ _ rfl) ?_
  refine am_s_iload rfl dc227_1.1.1.1 ?_
  refine am_s_aload_n rfl dc227_1.1.1.2 ?_
  refine am_s_iconst am_cc0 dc227_1.1.2.1 ?_
  refine am_s_bipush am_cb7 dc227_1.1.2.2 ?_
  exact am_s_virtual true dc227_1.2.1.1 rfl (by decide) rfl rfl rfl (q)
theorem v227_83 {sc : Option (Nat × (Nat → Int32))} {d k n : Nat} {P : am_O → Prop} {I : am_I} {J : am_J} {Pf : am_R} (hp : am_PF Pf) {l1 : Option Value} {x2 : Int32} {x3 : Int32} {x4 : Int32} {l5 : Option Value} (q : (am_in (x4 + 2) 1040 = true) ∧ (am_in (x4 + 3) 1040 = true) ∧ (P (.inl none, (am_SH, am_u (am_u I 166 (Int32.toNatClampNeg (x4 + 2)) x2) 166 (Int32.toNatClampNeg (x4 + 3)) x3, J, Pf), k, n))) : am_go sc d 227 (83, [some (.ref 163), l1, some (.int x2), some (.int x3), some (.int x4), l5], [], (am_SH, I, J, Pf), k, n) P := by
  refine am_s_aload_n rfl dc227_6.1.1.1 ?_
  refine am_s_getR (r := 166) dc227_6.1.1.2 rfl rfl rfl (hp _ _ _ rfl) ?_
  refine am_s_iload rfl dc227_6.1.2.1 ?_
  refine am_s_iconst am_cc2 dc227_6.1.2.2 ?_
  refine am_s_iadd dc227_6.2.1.1 ?_
  refine am_s_iload_n rfl dc227_6.2.1.2 ?_
  refine am_s_iastore dc227_6.2.2.1 rfl (q.1) rfl ?_
  refine am_s_aload_n rfl dc227_6.2.2.2 ?_
  refine am_s_getR (r := 166) dc227_7.1.1 rfl rfl rfl (hp _ _ _ rfl) ?_
  refine am_s_iload rfl dc227_7.1.2.1 ?_
  refine am_s_iconst am_cc3 dc227_7.1.2.2 ?_
  refine am_s_iadd dc227_7.2.1.1 ?_
  refine am_s_iload_n rfl dc227_7.2.1.2 ?_
  refine am_s_iastore dc227_7.2.2.1 rfl (q.2.1) rfl ?_
  exact am_s_return dc227_7.2.2.2 rfl (q.2.2)
theorem v227_22 {sc : Option (Nat × (Nat → Int32))} {d k n : Nat} {P : am_O → Prop} {I : am_I} {J : am_J} {Pf : am_R} (hp : am_PF Pf) {l1 : Option Value} {x2 : Int32} {x3 : Int32} {x4 : Int32} {l5 : Option Value} {s1 : Int32} {s2 : Int32} (q : (am_in s1 1040 = true) ∧ (am_mth d 195 [.ref 163] (am_SH, am_u I 166 (Int32.toNatClampNeg s1) s2, J, Pf) (am_af sc d 227 24 [some (.ref 163), l1, some (.int x2), some (.int x3), some (.int x4), l5] [.ref 163] [] (am_SH, am_u I 166 (Int32.toNatClampNeg s1) s2, J, Pf) k n true P))) : am_go sc d 227 (22, [some (.ref 163), l1, some (.int x2), some (.int x3), some (.int x4), l5], [.int s2, .int s1, .ref 166], (am_SH, I, J, Pf), k, n) P := by
  refine am_s_iastore dc227_1.2.1.2 rfl (q.1) rfl ?_
  refine am_s_aload_n rfl dc227_1.2.2.1 ?_
  exact am_s_virtual true dc227_1.2.2.2 rfl (by decide) rfl rfl rfl (q.2)
theorem v227_27 {sc : Option (Nat × (Nat → Int32))} {d k n : Nat} {P : am_O → Prop} {I : am_I} {J : am_J} {Pf : am_R} (hp : am_PF Pf) {l1 : Option Value} {x2 : Int32} {x3 : Int32} {x4 : Int32} {l5 : Option Value} {s0 : Int32} (q : (am_mth d 201 [.ref 163, .int 0, .int 7] (am_SH, I, J, Pf) (am_af sc d 227 46 [some (.ref 163), l1, some (.int x2), some (.int x3), some (.int x4), some (.int (I 163 4))] [.int 7, .int 0, .ref 163, .int (x4 + 1), .ref 166] [.int (x4 + 1), .ref 166] (am_SH, I, J, Pf) k n true P))) : am_go sc d 227 (27, [some (.ref 163), l1, some (.int x2), some (.int x3), some (.int x4), l5], [.int s0], (am_SH, I, J, Pf), k, n) P := by
  refine am_s_pop rfl dc227_2.1.1.1 ?_
  refine am_s_aload_n rfl dc227_2.1.1.2 ?_
  refine am_x_getI (x := I 163 4) dc227_2.1.2.1 rfl rfl (Or.inl rfl) rfl ?_
  refine am_s_istore (ls' := [some (.ref 163), l1, some (.int x2), some (.int x3), some (.int x4), some (.int (I 163 4))]) rfl rfl dc227_2.1.2.2 ?_
  refine am_s_aload_n rfl dc227_2.2.1.1 ?_
  refine am_s_getR (r := 166) dc227_2.2.1.2 rfl rfl rfl (hp _ _ _ rfl) ?_
  refine am_s_iload rfl dc227_2.2.2.1 ?_
  refine am_s_iconst am_cc1 dc227_2.2.2.2 ?_
  refine am_s_iadd dc227_3.1.1.1 ?_
  refine am_s_aload_n rfl dc227_3.1.1.2 ?_
  refine am_s_iconst am_cc0 dc227_3.1.2.1 ?_
  refine am_s_bipush am_cb7 dc227_3.1.2.2 ?_
  exact am_s_virtual true dc227_3.2.1.1 rfl (by decide) rfl rfl rfl (q)
theorem v227_49 {sc : Option (Nat × (Nat → Int32))} {d k n : Nat} {P : am_O → Prop} {I : am_I} {J : am_J} {Pf : am_R} (hp : am_PF Pf) {l1 : Option Value} {x2 : Int32} {x3 : Int32} {x4 : Int32} {x5 : Int32} {s1 : Int32} {s2 : Int32} (q : (am_in s1 1040 = true) ∧ (if (I 163 5) = (-1) then (am_in (x4 + 1) 1040 = true) ∧ (am_in x4 1040 = true) ∧ (if ((am_u I 166 (Int32.toNatClampNeg s1) s2) 166 (Int32.toNatClampNeg (x4 + 1))) = ((am_u I 166 (Int32.toNatClampNeg s1) s2) 166 (Int32.toNatClampNeg x4)) then (am_go sc (d + 1) 227 (83, [some (.ref 163), l1, some (.int x2), some (.int x3), some (.int x4), some (.int x5)], [], (am_SH, am_u (am_u (am_u I 166 (Int32.toNatClampNeg s1) s2) 163 5 x5) 163 6 2, J, Pf), k, n) P) else (am_go sc (d + 1) 227 (83, [some (.ref 163), l1, some (.int x2), some (.int x3), some (.int x4), some (.int x5)], [], (am_SH, am_u I 166 (Int32.toNatClampNeg s1) s2, J, Pf), k, n) P)) else (am_go sc (d + 1) 227 (83, [some (.ref 163), l1, some (.int x2), some (.int x3), some (.int x4), some (.int x5)], [], (am_SH, am_u I 166 (Int32.toNatClampNeg s1) s2, J, Pf), k, n) P))) : am_go sc (d + 1) 227 (49, [some (.ref 163), l1, some (.int x2), some (.int x3), some (.int x4), some (.int x5)], [.int s2, .int s1, .ref 166], (am_SH, I, J, Pf), k, n) P := by
  refine am_s_iastore dc227_3.2.1.2 rfl (q.1) rfl ?_
  refine am_s_aload_n rfl dc227_3.2.2.1 ?_
  refine am_s_virtual true dc227_3.2.2.2 rfl (by decide) rfl rfl rfl (am_mth_of rfl rfl ?_)
  refine am_s_aload_n rfl dc193_0.1.1.1 ?_
  refine am_x_getI (x := I 163 5) dc193_0.1.1.2 rfl rfl (Or.inl rfl) rfl ?_
  refine am_s_iconst am_ccm1 dc193_0.1.2.1 ?_
  refine am_s_ic_ne dc193_0.1.2.2 rfl (fun c1 => ?_) (fun c1 => ?_)
  · refine am_s_iconst am_cc0 dc193_0.2.2.1 ?_
    refine am_s_zreturn dc193_0.2.2.2 rfl (by decide) (am_bkI ?_)
    refine am_s_if_eq dc227_4.1.1.1 rfl (fun _ => ?_) (fun z => absurd z (by decide))
    exact (vi_f q.2 c1)
  · refine am_s_iconst am_cc1 dc193_0.2.1.1 ?_
    refine am_s_goto rfl dc193_0.2.1.2 ?_
    refine am_s_zreturn dc193_0.2.2.2 rfl (by decide) (am_bkI ?_)
    refine am_s_if_eq dc227_4.1.1.1 rfl (fun z => absurd z (by decide)) (fun _ => ?_)
    refine am_s_aload_n rfl dc227_4.1.1.2 ?_
    refine am_s_getR (r := 166) dc227_4.1.2.1 rfl rfl rfl (hp _ _ _ rfl) ?_
    refine am_s_iload rfl dc227_4.1.2.2 ?_
    refine am_s_iconst am_cc1 dc227_4.2.1.1 ?_
    refine am_s_iadd dc227_4.2.1.2 ?_
    refine am_x_iaload (x := (am_u I 166 (Int32.toNatClampNeg s1) s2) 166 (Int32.toNatClampNeg (x4 + 1))) dc227_4.2.2.1 rfl ((vi_t q.2 (Decidable.not_not.mp c1)).1) rfl rfl ?_
    refine am_s_aload_n rfl dc227_4.2.2.2 ?_
    refine am_s_getR (r := 166) dc227_5.1.1.1 rfl rfl rfl (hp _ _ _ rfl) ?_
    refine am_s_iload rfl dc227_5.1.1.2 ?_
    refine am_x_iaload (x := (am_u I 166 (Int32.toNatClampNeg s1) s2) 166 (Int32.toNatClampNeg x4)) dc227_5.1.2.1 rfl ((vi_t q.2 (Decidable.not_not.mp c1)).2.1) rfl rfl ?_
    refine am_s_ic_ne dc227_5.1.2.2 rfl (fun c2 => ?_) (fun c2 => ?_)
    · exact (vi_f (vi_t q.2 (Decidable.not_not.mp c1)).2.2 c2)
    · refine am_s_aload_n rfl dc227_5.2.1.1 ?_
      refine am_s_iconst am_cc2 dc227_5.2.1.2 ?_
      refine am_s_iload rfl dc227_5.2.2.1 ?_
      refine am_s_virtual true dc227_5.2.2.2 rfl (by decide) rfl rfl rfl (am_mth_of rfl rfl ?_)
      refine am_s_aload_n rfl dc194_0.1.1.1 ?_
      refine am_x_getI (x := I 163 5) dc194_0.1.1.2 rfl rfl (Or.inl rfl) rfl ?_
      refine am_s_iconst am_ccm1 dc194_0.1.2.1 ?_
      refine am_s_ic_eq dc194_0.1.2.2 rfl (fun _ => ?_) (fun z => absurd z c1)
      refine am_s_aload_n rfl dc194_0.2.1.2 ?_
      refine am_s_iload_n rfl dc194_0.2.2.1 ?_
      refine am_s_putI dc194_0.2.2.2 rfl rfl rfl rfl ?_
      refine am_s_aload_n rfl dc194_1.1.1 ?_
      refine am_s_iload_n rfl dc194_1.1.2 ?_
      refine am_s_putI dc194_1.2.1 rfl rfl rfl rfl ?_
      refine am_s_return dc194_1.2.2 rfl (am_bkV ?_)
      exact (vi_t (vi_t q.2 (Decidable.not_not.mp c1)).2.2 (Decidable.not_not.mp c2))
-- readClause (III)V
theorem v228_0 {sc : Option (Nat × (Nat → Int32))} {d k n : Nat} {P : am_O → Prop} {I : am_I} {J : am_J} {Pf : am_R} (hp : am_PF Pf) {x1 : Int32} {x2 : Int32} {x3 : Int32} {l4 : Option Value} {l5 : Option Value} (q : (am_mth d 222 [.int x1] (am_SH, I, J, Pf) (am_af sc d 228 1 [some (.ref 163), some (.int x1), some (.int x2), some (.int x3), l4, l5] [.int x1] [] (am_SH, I, J, Pf) k n false P))) : am_go sc d 228 (0, [some (.ref 163), some (.int x1), some (.int x2), some (.int x3), l4, l5], [], (am_SH, I, J, Pf), k, n) P := by
  refine am_s_iload_n rfl dc228_0.1.1.1 ?_
  exact am_s_static dc228_0.1.1.2 rfl rfl rfl (q)
theorem v228_199 {sc : Option (Nat × (Nat → Int32))} {d k n : Nat} {P : am_O → Prop} {I : am_I} {J : am_J} {Pf : am_R} (hp : am_PF Pf) {l1 : Option Value} {l2 : Option Value} {l3 : Option Value} {x4 : Int32} {l5 : Option Value} (q : (if x4 = 5 then (P (.inl none, (am_SH, I, J, Pf), k, n)) else (am_in x4 1040 = true) ∧ (am_in x4 1040 = true) ∧ (P (.inl none, (am_SH, am_u I 166 (Int32.toNatClampNeg x4) ((I 166 (Int32.toNatClampNeg x4)) + 1), J, Pf), k, n)))) : am_go sc d 228 (199, [some (.ref 163), l1, l2, l3, some (.int x4), l5], [], (am_SH, I, J, Pf), k, n) P := by
  refine am_s_iload rfl dc228_13.2.2.2 ?_
  refine am_s_iconst am_cc5 dc228_14.1.1.1 ?_
  refine am_s_ic_eq dc228_14.1.1.2 rfl (fun c1 => ?_) (fun c1 => ?_)
  · exact am_s_return dc228_15.2.2 rfl ((vi_t q c1))
  · refine am_s_aload_n rfl dc228_14.1.2.1 ?_
    refine am_s_getR (r := 166) dc228_14.1.2.2 rfl rfl rfl (hp _ _ _ rfl) ?_
    refine am_s_iload rfl dc228_14.2.1.1 ?_
    refine am_s_dup2 rfl rfl dc228_14.2.1.2 ?_
    refine am_x_iaload (x := I 166 (Int32.toNatClampNeg x4)) dc228_14.2.2.1 rfl ((vi_f q c1).1) rfl rfl ?_
    refine am_s_iconst am_cc1 dc228_14.2.2.2 ?_
    refine am_s_iadd dc228_15.1 ?_
    refine am_s_iastore dc228_15.2.1 rfl ((vi_f q c1).2.1) rfl ?_
    exact am_s_return dc228_15.2.2 rfl ((vi_f q c1).2.2)
theorem v228_4 {sc : Option (Nat × (Nat → Int32))} {d k n : Nat} {P : am_O → Prop} {I : am_I} {J : am_J} {Pf : am_R} (hp : am_PF Pf) {x1 : Int32} {x2 : Int32} {x3 : Int32} {l4 : Option Value} {l5 : Option Value} {s0 : Int32} (q : (am_in s0 1040 = true) ∧ (if s0 = 0 then (am_mth d 220 [.ref 163] (am_SH, I, J, Pf) (am_af sc d 228 21 [some (.ref 163), some (.int x1), some (.int x2), some (.int x3), some (.int s0), some (.int (I 166 (Int32.toNatClampNeg s0)))] [.ref 163] [] (am_SH, I, J, Pf) k n true P)) else (if s0 = 1 then (am_mth d 199 [.retAddr 3] (am_SH, I, J, Pf) (am_af sc d 228 92 [some (.ref 163), some (.int x1), some (.int x2), some (.int x3), some (.int s0), some (.int (I 166 (Int32.toNatClampNeg s0)))] [.retAddr 3, .int x1, .int (I 166 (Int32.toNatClampNeg s0)), .ref 163] [.int x1, .int (I 166 (Int32.toNatClampNeg s0)), .ref 163] (am_SH, I, J, Pf) k n false P)) else (if s0 = 2 then (am_mth d 226 [.ref 163, .int (I 166 (Int32.toNatClampNeg s0))] (am_SH, I, J, Pf) (am_af sc d 228 118 [some (.ref 163), some (.int x1), some (.int x2), some (.int x3), some (.int s0), some (.int (I 166 (Int32.toNatClampNeg s0)))] [.int (I 166 (Int32.toNatClampNeg s0)), .ref 163] [] (am_SH, I, J, Pf) k n true P)) else (if s0 = 3 then (am_mth d 201 [.ref 163, .int 0, .int 7] (am_SH, I, J, Pf) (am_af sc d 228 146 [some (.ref 163), some (.int x1), some (.int x2), some (.int x3), some (.int s0), some (.int (I 166 (Int32.toNatClampNeg s0)))] [.int 7, .int 0, .ref 163, .int (992 + (2 * (I 166 (Int32.toNatClampNeg s0)))), .ref 166] [.int (992 + (2 * (I 166 (Int32.toNatClampNeg s0)))), .ref 166] (am_SH, I, J, Pf) k n true P)) else (if s0 = 4 then (am_mth d 227 [.ref 163, .int (I 166 (Int32.toNatClampNeg s0)), .int x2, .int x3] (am_SH, I, J, Pf) (am_af sc d 228 183 [some (.ref 163), some (.int x1), some (.int x2), some (.int x3), some (.int s0), some (.int (I 166 (Int32.toNatClampNeg s0)))] [.int x3, .int x2, .int (I 166 (Int32.toNatClampNeg s0)), .ref 163] [] (am_SH, I, J, Pf) k n true P)) else (am_mth d 217 [.ref 163] (am_SH, I, J, Pf) (am_af sc d 228 195 [some (.ref 163), some (.int x1), some (.int x2), some (.int x3), some (.int s0), some (.int (I 166 (Int32.toNatClampNeg s0)))] [.ref 163, .int 5, .ref 166] [.int 5, .ref 166] (am_SH, I, J, Pf) k n true P)))))))) : am_go sc d 228 (4, [some (.ref 163), some (.int x1), some (.int x2), some (.int x3), l4, l5], [.int s0], (am_SH, I, J, Pf), k, n) P := by
  refine am_s_istore (ls' := [some (.ref 163), some (.int x1), some (.int x2), some (.int x3), some (.int s0), l5]) rfl rfl dc228_0.1.2.1 ?_
  refine am_s_aload_n rfl dc228_0.1.2.2 ?_
  refine am_s_getR (r := 166) dc228_0.2.1.1 rfl rfl rfl (hp _ _ _ rfl) ?_
  refine am_s_iload rfl dc228_0.2.1.2 ?_
  refine am_x_iaload (x := I 166 (Int32.toNatClampNeg s0)) dc228_0.2.2.1 rfl (q.1) rfl rfl ?_
  refine am_s_istore (ls' := [some (.ref 163), some (.int x1), some (.int x2), some (.int x3), some (.int s0), some (.int (I 166 (Int32.toNatClampNeg s0)))]) rfl rfl dc228_0.2.2.2 ?_
  refine am_s_iload rfl dc228_1.1.1.1 ?_
  refine am_s_if_ne dc228_1.1.1.2 rfl (fun c1 => ?_) (fun c1 => ?_)
  · refine am_s_iload rfl dc228_5.2.2.2 ?_
    refine am_s_iconst am_cc1 dc228_6.1.1.1 ?_
    refine am_s_ic_ne dc228_6.1.1.2 rfl (fun c2 => ?_) (fun c2 => ?_)
    · refine am_s_iload rfl dc228_7.2.1.2 ?_
      refine am_s_iconst am_cc2 dc228_7.2.2.1 ?_
      refine am_s_ic_ne dc228_7.2.2.2 rfl (fun c3 => ?_) (fun c3 => ?_)
      · refine am_s_iload rfl dc228_8.2.1.1 ?_
        refine am_s_iconst am_cc3 dc228_8.2.1.2 ?_
        refine am_s_ic_ne dc228_8.2.2.1 rfl (fun c4 => ?_) (fun c4 => ?_)
        · refine am_s_iload rfl dc228_12.1.1.1 ?_
          refine am_s_iconst am_cc4 dc228_12.1.1.2 ?_
          refine am_s_ic_ne dc228_12.1.2.1 rfl (fun c5 => ?_) (fun c5 => ?_)
          · refine am_s_aload_n rfl dc228_13.1.1.2 ?_
            refine am_s_getR (r := 166) dc228_13.1.2.1 rfl rfl rfl (hp _ _ _ rfl) ?_
            refine am_s_iconst am_cc5 dc228_13.1.2.2 ?_
            refine am_s_aload_n rfl dc228_13.2.1.1 ?_
            exact am_s_virtual true dc228_13.2.1.2 rfl (by decide) rfl rfl rfl ((vi_f (vi_f (vi_f (vi_f (vi_f q.2 c1) c2) c3) c4) c5))
          · refine am_s_aload_n rfl dc228_12.1.2.2 ?_
            refine am_s_iload rfl dc228_12.2.1.1 ?_
            refine am_s_iload_n rfl dc228_12.2.1.2 ?_
            refine am_s_iload_n rfl dc228_12.2.2.1 ?_
            exact am_s_virtual true dc228_12.2.2.2 rfl (by decide) rfl rfl rfl ((vi_t (vi_f (vi_f (vi_f (vi_f q.2 c1) c2) c3) c4) (Decidable.not_not.mp c5)))
        · refine am_s_aload_n rfl dc228_8.2.2.2 ?_
          refine am_s_getR (r := 166) dc228_9.1.1.1 rfl rfl rfl (hp _ _ _ rfl) ?_
          refine am_s_sipush am_cs992 dc228_9.1.1.2 ?_
          refine am_s_iconst am_cc2 dc228_9.1.2.1 ?_
          refine am_s_iload rfl dc228_9.1.2.2 ?_
          refine am_s_imul dc228_9.2.1.1 ?_
          refine am_s_iadd dc228_9.2.1.2 ?_
          refine am_s_aload_n rfl dc228_9.2.2.1 ?_
          refine am_s_iconst am_cc0 dc228_9.2.2.2 ?_
          refine am_s_bipush am_cb7 dc228_10.1.1.1 ?_
          exact am_s_virtual true dc228_10.1.1.2 rfl (by decide) rfl rfl rfl ((vi_t (vi_f (vi_f (vi_f q.2 c1) c2) c3) (Decidable.not_not.mp c4)))
      · refine am_s_aload_n rfl dc228_8.1.1.1 ?_
        refine am_s_iload rfl dc228_8.1.1.2 ?_
        exact am_s_virtual true dc228_8.1.2.1 rfl (by decide) rfl rfl rfl ((vi_t (vi_f (vi_f q.2 c1) c2) (Decidable.not_not.mp c3)))
    · refine am_s_aload_n rfl dc228_6.1.2.1 ?_
      refine am_s_iload rfl dc228_6.1.2.2 ?_
      refine am_s_iload_n rfl dc228_6.2.1.1 ?_
      refine am_s_ldcwT (x := 3) dc228_6.2.1.2 rfl rfl ?_
      exact am_s_static dc228_6.2.2.1 rfl rfl rfl ((vi_t (vi_f q.2 c1) (Decidable.not_not.mp c2)))
  · refine am_s_aload_n rfl dc228_1.1.2.1 ?_
    exact am_s_virtual true dc228_1.1.2.2 rfl (by decide) rfl rfl rfl ((vi_t q.2 (Decidable.not_not.mp c1)))
theorem v228_24 {sc : Option (Nat × (Nat → Int32))} {d k n : Nat} {P : am_O → Prop} {I : am_I} {J : am_J} {Pf : am_R} (hp : am_PF Pf) {l1 : Option Value} {l2 : Option Value} {l3 : Option Value} {x4 : Int32} {x5 : Int32} (q : (am_in (8 + (3 * x5)) 1040 = true) ∧ (am_in ((8 + (3 * x5)) + 1) 1040 = true) ∧ (am_in ((8 + (3 * x5)) + 2) 1040 = true) ∧ (am_go sc d 228 (199, [some (.ref 163), l1, l2, l3, some (.int x4), some (.int x5)], [], (am_SH, am_u (am_u (am_u I 166 (Int32.toNatClampNeg (8 + (3 * x5))) (I 163 17)) 166 (Int32.toNatClampNeg ((8 + (3 * x5)) + 1)) (I 163 18)) 166 (Int32.toNatClampNeg ((8 + (3 * x5)) + 2)) (I 163 19), J, Pf), k, n) P)) : am_go sc d 228 (24, [some (.ref 163), l1, l2, l3, some (.int x4), some (.int x5)], [], (am_SH, I, J, Pf), k, n) P := by
  refine am_s_aload_n rfl dc228_1.2.1.1 ?_
  refine am_s_getR (r := 166) dc228_1.2.1.2 rfl rfl rfl (hp _ _ _ rfl) ?_
  refine am_s_bipush am_cb8 dc228_1.2.2.1 ?_
  refine am_s_iconst am_cc3 dc228_1.2.2.2 ?_
  refine am_s_iload rfl dc228_2.1.1.1 ?_
  refine am_s_imul dc228_2.1.1.2 ?_
  refine am_s_iadd dc228_2.1.2.1 ?_
  refine am_s_aload_n rfl dc228_2.1.2.2 ?_
  refine am_x_getI (x := I 163 17) dc228_2.2.1.1 rfl rfl (Or.inl rfl) rfl ?_
  refine am_s_iastore dc228_2.2.1.2 rfl (q.1) rfl ?_
  refine am_s_aload_n rfl dc228_2.2.2.1 ?_
  refine am_s_getR (r := 166) dc228_2.2.2.2 rfl rfl rfl (hp _ _ _ rfl) ?_
  refine am_s_bipush am_cb8 dc228_3.1.1.1 ?_
  refine am_s_iconst am_cc3 dc228_3.1.1.2 ?_
  refine am_s_iload rfl dc228_3.1.2.1 ?_
  refine am_s_imul dc228_3.1.2.2 ?_
  refine am_s_iadd dc228_3.2.1.1 ?_
  refine am_s_iconst am_cc1 dc228_3.2.1.2 ?_
  refine am_s_iadd dc228_3.2.2.1 ?_
  refine am_s_aload_n rfl dc228_3.2.2.2 ?_
  refine am_x_getI (x := I 163 18) dc228_4.1.1.1 rfl rfl (Or.inl rfl) rfl ?_
  refine am_s_iastore dc228_4.1.1.2 rfl (q.2.1) rfl ?_
  refine am_s_aload_n rfl dc228_4.1.2.1 ?_
  refine am_s_getR (r := 166) dc228_4.1.2.2 rfl rfl rfl (hp _ _ _ rfl) ?_
  refine am_s_bipush am_cb8 dc228_4.2.1.1 ?_
  refine am_s_iconst am_cc3 dc228_4.2.1.2 ?_
  refine am_s_iload rfl dc228_4.2.2.1 ?_
  refine am_s_imul dc228_4.2.2.2 ?_
  refine am_s_iadd dc228_5.1.1.1 ?_
  refine am_s_iconst am_cc2 dc228_5.1.1.2 ?_
  refine am_s_iadd dc228_5.1.2.1 ?_
  refine am_s_aload_n rfl dc228_5.1.2.2 ?_
  refine am_x_getI (x := I 163 19) dc228_5.2.1.1 rfl rfl (Or.inl rfl) rfl ?_
  refine am_s_iastore dc228_5.2.1.2 rfl (q.2.2.1) rfl ?_
  refine am_s_goto rfl dc228_5.2.2.1 ?_
  exact q.2.2.2
theorem v228_95 {sc : Option (Nat × (Nat → Int32))} {d k n : Nat} {P : am_O → Prop} {I : am_I} {J : am_J} {Pf : am_R} (hp : am_PF Pf) {l1 : Option Value} {l2 : Option Value} {l3 : Option Value} {x4 : Int32} {l5 : Option Value} {s1 : Int32} {s2 : Int32} {s3 : Int32} (q : (if s2 = s3 then (am_mth d 225 [.ref 163, .int s1, .int 1] (am_SH, I, J, Pf) (am_af sc d 228 103 [some (.ref 163), l1, l2, l3, some (.int x4), l5] [.int 1, .int s1, .ref 163] [] (am_SH, I, J, Pf) k n true P)) else (am_mth d 225 [.ref 163, .int s1, .int 0] (am_SH, I, J, Pf) (am_af sc d 228 103 [some (.ref 163), l1, l2, l3, some (.int x4), l5] [.int 0, .int s1, .ref 163] [] (am_SH, I, J, Pf) k n true P)))) : am_go sc d 228 (95, [some (.ref 163), l1, l2, l3, some (.int x4), l5], [.int s3, .int s2, .int s1, .ref 163], (am_SH, I, J, Pf), k, n) P := by
  refine am_s_ic_ne dc228_6.2.2.2 rfl (fun c1 => ?_) (fun c1 => ?_)
  · refine am_s_iconst am_cc0 dc228_7.1.2.1 ?_
    exact am_s_virtual true dc228_7.1.2.2 rfl (by decide) rfl rfl rfl ((vi_f q c1))
  · refine am_s_iconst am_cc1 dc228_7.1.1.1 ?_
    refine am_s_goto rfl dc228_7.1.1.2 ?_
    exact am_s_virtual true dc228_7.1.2.2 rfl (by decide) rfl rfl rfl ((vi_t q (Decidable.not_not.mp c1)))
theorem v228_121 {sc : Option (Nat × (Nat → Int32))} {d k n : Nat} {P : am_O → Prop} {I : am_I} {J : am_J} {Pf : am_R} (hp : am_PF Pf) {l1 : Option Value} {l2 : Option Value} {l3 : Option Value} {x4 : Int32} {l5 : Option Value} (q : (am_go sc d 228 (199, [some (.ref 163), l1, l2, l3, some (.int x4), l5], [], (am_SH, I, J, Pf), k, n) P)) : am_go sc d 228 (121, [some (.ref 163), l1, l2, l3, some (.int x4), l5], [], (am_SH, I, J, Pf), k, n) P := by
  refine am_s_goto rfl dc228_8.1.2.2 ?_
  exact q
theorem v228_149 {sc : Option (Nat × (Nat → Int32))} {d k n : Nat} {P : am_O → Prop} {I : am_I} {J : am_J} {Pf : am_R} (hp : am_PF Pf) {l1 : Option Value} {l2 : Option Value} {l3 : Option Value} {x4 : Int32} {x5 : Int32} {s1 : Int32} {s2 : Int32} (q : (am_in s1 1040 = true) ∧ (am_mth d 217 [.ref 163] (am_SH, am_u I 166 (Int32.toNatClampNeg s1) s2, J, Pf) (am_af sc d 228 165 [some (.ref 163), l1, l2, l3, some (.int x4), some (.int x5)] [.ref 163, .int ((992 + (2 * x5)) + 1), .ref 166] [.int ((992 + (2 * x5)) + 1), .ref 166] (am_SH, am_u I 166 (Int32.toNatClampNeg s1) s2, J, Pf) k n true P))) : am_go sc d 228 (149, [some (.ref 163), l1, l2, l3, some (.int x4), some (.int x5)], [.int s2, .int s1, .ref 166], (am_SH, I, J, Pf), k, n) P := by
  refine am_s_iastore dc228_10.1.2.1 rfl (q.1) rfl ?_
  refine am_s_aload_n rfl dc228_10.1.2.2 ?_
  refine am_s_getR (r := 166) dc228_10.2.1.1 rfl rfl rfl (hp _ _ _ rfl) ?_
  refine am_s_sipush am_cs992 dc228_10.2.1.2 ?_
  refine am_s_iconst am_cc2 dc228_10.2.2.1 ?_
  refine am_s_iload rfl dc228_10.2.2.2 ?_
  refine am_s_imul dc228_11.1.1.1 ?_
  refine am_s_iadd dc228_11.1.1.2 ?_
  refine am_s_iconst am_cc1 dc228_11.1.2.1 ?_
  refine am_s_iadd dc228_11.1.2.2 ?_
  refine am_s_aload_n rfl dc228_11.2.1.1 ?_
  exact am_s_virtual true dc228_11.2.1.2 rfl (by decide) rfl rfl rfl (q.2)
theorem v228_186 {sc : Option (Nat × (Nat → Int32))} {d k n : Nat} {P : am_O → Prop} {I : am_I} {J : am_J} {Pf : am_R} (hp : am_PF Pf) {l1 : Option Value} {l2 : Option Value} {l3 : Option Value} {x4 : Int32} {l5 : Option Value} (q : (am_go sc d 228 (199, [some (.ref 163), l1, l2, l3, some (.int x4), l5], [], (am_SH, I, J, Pf), k, n) P)) : am_go sc d 228 (186, [some (.ref 163), l1, l2, l3, some (.int x4), l5], [], (am_SH, I, J, Pf), k, n) P := by
  refine am_s_goto rfl dc228_13.1.1.1 ?_
  exact q
theorem v228_198 {sc : Option (Nat × (Nat → Int32))} {d k n : Nat} {P : am_O → Prop} {I : am_I} {J : am_J} {Pf : am_R} (hp : am_PF Pf) {l1 : Option Value} {l2 : Option Value} {l3 : Option Value} {x4 : Int32} {l5 : Option Value} {s1 : Int32} {s2 : Int32} (q : (am_in s1 1040 = true) ∧ (am_go sc d 228 (199, [some (.ref 163), l1, l2, l3, some (.int x4), l5], [], (am_SH, am_u I 166 (Int32.toNatClampNeg s1) s2, J, Pf), k, n) P)) : am_go sc d 228 (198, [some (.ref 163), l1, l2, l3, some (.int x4), l5], [.int s2, .int s1, .ref 166], (am_SH, I, J, Pf), k, n) P := by
  refine am_s_iastore dc228_13.2.2.1 rfl (q.1) rfl ?_
  exact q.2
theorem v228_106 {sc : Option (Nat × (Nat → Int32))} {d k n : Nat} {P : am_O → Prop} {I : am_I} {J : am_J} {Pf : am_R} (hp : am_PF Pf) {l1 : Option Value} {l2 : Option Value} {l3 : Option Value} {x4 : Int32} {l5 : Option Value} (q : (am_go sc d 228 (199, [some (.ref 163), l1, l2, l3, some (.int x4), l5], [], (am_SH, I, J, Pf), k, n) P)) : am_go sc d 228 (106, [some (.ref 163), l1, l2, l3, some (.int x4), l5], [], (am_SH, I, J, Pf), k, n) P := by
  refine am_s_goto rfl dc228_7.2.1.1 ?_
  exact q
theorem v228_168 {sc : Option (Nat × (Nat → Int32))} {d k n : Nat} {P : am_O → Prop} {I : am_I} {J : am_J} {Pf : am_R} (hp : am_PF Pf) {l1 : Option Value} {l2 : Option Value} {l3 : Option Value} {x4 : Int32} {l5 : Option Value} {s1 : Int32} {s2 : Int32} (q : (am_in s1 1040 = true) ∧ (am_go sc d 228 (199, [some (.ref 163), l1, l2, l3, some (.int x4), l5], [], (am_SH, am_u I 166 (Int32.toNatClampNeg s1) s2, J, Pf), k, n) P)) : am_go sc d 228 (168, [some (.ref 163), l1, l2, l3, some (.int x4), l5], [.int s2, .int s1, .ref 166], (am_SH, I, J, Pf), k, n) P := by
  refine am_s_iastore dc228_11.2.2.1 rfl (q.1) rfl ?_
  refine am_s_goto rfl dc228_11.2.2.2 ?_
  exact q.2
-- grammar (I)I
theorem v229_0 {sc : Option (Nat × (Nat → Int32))} {d k n : Nat} {P : am_O → Prop} {I : am_I} {J : am_J} {Pf : am_R} (hp : am_PF Pf) {x1 : Int32} {l2 : Option Value} {l3 : Option Value} {l4 : Option Value} {l5 : Option Value} (q : (if x1 < 0 then (P (.inl (some (.int 0)), (am_SH, am_u (am_u (am_u I 163 0 0) 163 0 1) 164 1 ((I 164 1) + 1), J, Pf), k, n)) else (if (I 163 2) < x1 then (P (.inl (some (.int 0)), (am_SH, am_u (am_u (am_u I 163 0 0) 163 0 1) 164 1 ((I 164 1) + 1), J, Pf), k, n)) else (am_mth (d + 1) 208 [.ref 163] (am_SH, am_u (am_u (am_u (am_u (am_u (am_u (am_u (am_u I 163 0 0) 163 2 0) 163 8 (-1)) 163 3 x1) 163 4 0) 163 5 (-1)) 163 7 0) 163 10 (-1), J, Pf) (am_af sc (d + 1) 229 39 [some (.ref 163), some (.int x1), l2, l3, l4, l5] [.ref 163] [] (am_SH, am_u (am_u (am_u (am_u (am_u (am_u (am_u (am_u I 163 0 0) 163 2 0) 163 8 (-1)) 163 3 x1) 163 4 0) 163 5 (-1)) 163 7 0) 163 10 (-1), J, Pf) k n true P))))) : am_go sc (d + 1) 229 (0, [some (.ref 163), some (.int x1), l2, l3, l4, l5], [], (am_SH, I, J, Pf), k, n) P := by
  refine am_s_aload_n rfl dc229_0.1.1.1 ?_
  refine am_s_iconst am_cc0 dc229_0.1.1.2 ?_
  refine am_s_putI dc229_0.1.2.1 rfl rfl rfl rfl ?_
  refine am_s_aload_n rfl dc229_0.1.2.2 ?_
  refine am_s_iload_n rfl dc229_0.2.1.1 ?_
  refine am_s_if_lt dc229_0.2.1.2 rfl (fun c1 => ?_) (fun c1 => ?_)
  · refine am_s_iconst am_cc0 dc229_1.2.1.1 ?_
    refine am_s_iconst am_cc1 dc229_1.2.1.2 ?_
    refine am_s_iconst am_cc1 dc229_1.2.2.1 ?_
    refine am_s_virtual true dc229_1.2.2.2 rfl (by decide) rfl rfl rfl (am_mth_of rfl rfl ?_)
    refine am_s_iload_n rfl dc189_0.1.1.1 ?_
    refine am_s_if_ne dc189_0.1.1.2 rfl (fun z => absurd z (by decide)) (fun _ => ?_)
    refine am_s_aload_n rfl dc189_0.1.2.1 ?_
    refine am_x_getI (x := 0) dc189_0.1.2.2 rfl rfl (Or.inl rfl) rfl ?_
    refine am_s_if_ne dc189_0.2.1.1 rfl (fun z => absurd z (by decide)) (fun _ => ?_)
    refine am_s_aload_n rfl dc189_0.2.1.2 ?_
    refine am_s_iload_n rfl dc189_0.2.2.1 ?_
    refine am_s_putI dc189_0.2.2.2 rfl rfl rfl rfl ?_
    refine am_s_aload_n rfl dc189_1.1.1.1 ?_
    refine am_s_getR (r := 164) dc189_1.1.1.2 rfl rfl rfl (hp _ _ _ rfl) ?_
    refine am_s_iload_n rfl dc189_1.1.2.1 ?_
    refine am_s_dup2 rfl rfl dc189_1.1.2.2 ?_
    refine am_x_iaload (x := I 164 1) dc189_1.2.1.1 rfl (by decide +kernel) am_cN1 rfl ?_
    refine am_s_iconst am_cc1 dc189_1.2.1.2 ?_
    refine am_s_iadd dc189_1.2.2.1 ?_
    refine am_s_iastore dc189_1.2.2.2 rfl (by decide +kernel) am_cN1 ?_
    refine am_s_aload_n rfl dc189_2.1.1 ?_
    refine am_x_getI (x := 1) dc189_2.1.2.1 rfl rfl (Or.inl rfl) rfl ?_
    refine am_s_if_ne dc189_2.1.2.2 rfl (fun _ => ?_) (fun z => absurd z (by decide))
    refine am_s_iconst am_cc0 dc189_2.2.2.1 ?_
    refine am_s_zreturn dc189_2.2.2.2 rfl (by decide) (am_bkI ?_)
    refine am_s_if_ne dc229_2.1.1.1 rfl (fun z => absurd z (by decide)) (fun _ => ?_)
    refine am_s_iconst am_cc0 dc229_2.1.1.2 ?_
    exact am_s_ireturn dc229_2.1.2.1 rfl ((vi_t q c1))
  · refine am_s_iload_n rfl dc229_0.2.2.1 ?_
    refine am_s_aload_n rfl dc229_0.2.2.2 ?_
    refine am_x_getI (x := I 163 2) dc229_1.1.1.1 rfl rfl (Or.inl rfl) rfl ?_
    refine am_s_ic_gt dc229_1.1.1.2 rfl (fun c2 => ?_) (fun c2 => ?_)
    · refine am_s_iconst am_cc0 dc229_1.2.1.1 ?_
      refine am_s_iconst am_cc1 dc229_1.2.1.2 ?_
      refine am_s_iconst am_cc1 dc229_1.2.2.1 ?_
      refine am_s_virtual true dc229_1.2.2.2 rfl (by decide) rfl rfl rfl (am_mth_of rfl rfl ?_)
      refine am_s_iload_n rfl dc189_0.1.1.1 ?_
      refine am_s_if_ne dc189_0.1.1.2 rfl (fun z => absurd z (by decide)) (fun _ => ?_)
      refine am_s_aload_n rfl dc189_0.1.2.1 ?_
      refine am_x_getI (x := 0) dc189_0.1.2.2 rfl rfl (Or.inl rfl) rfl ?_
      refine am_s_if_ne dc189_0.2.1.1 rfl (fun z => absurd z (by decide)) (fun _ => ?_)
      refine am_s_aload_n rfl dc189_0.2.1.2 ?_
      refine am_s_iload_n rfl dc189_0.2.2.1 ?_
      refine am_s_putI dc189_0.2.2.2 rfl rfl rfl rfl ?_
      refine am_s_aload_n rfl dc189_1.1.1.1 ?_
      refine am_s_getR (r := 164) dc189_1.1.1.2 rfl rfl rfl (hp _ _ _ rfl) ?_
      refine am_s_iload_n rfl dc189_1.1.2.1 ?_
      refine am_s_dup2 rfl rfl dc189_1.1.2.2 ?_
      refine am_x_iaload (x := I 164 1) dc189_1.2.1.1 rfl (by decide +kernel) am_cN1 rfl ?_
      refine am_s_iconst am_cc1 dc189_1.2.1.2 ?_
      refine am_s_iadd dc189_1.2.2.1 ?_
      refine am_s_iastore dc189_1.2.2.2 rfl (by decide +kernel) am_cN1 ?_
      refine am_s_aload_n rfl dc189_2.1.1 ?_
      refine am_x_getI (x := 1) dc189_2.1.2.1 rfl rfl (Or.inl rfl) rfl ?_
      refine am_s_if_ne dc189_2.1.2.2 rfl (fun _ => ?_) (fun z => absurd z (by decide))
      refine am_s_iconst am_cc0 dc189_2.2.2.1 ?_
      refine am_s_zreturn dc189_2.2.2.2 rfl (by decide) (am_bkI ?_)
      refine am_s_if_ne dc229_2.1.1.1 rfl (fun z => absurd z (by decide)) (fun _ => ?_)
      refine am_s_iconst am_cc0 dc229_2.1.1.2 ?_
      exact am_s_ireturn dc229_2.1.2.1 rfl ((vi_t (vi_f q c1) c2))
    · refine am_s_iconst am_cc1 dc229_1.1.2.1 ?_
      refine am_s_goto rfl dc229_1.1.2.2 ?_
      refine am_s_iconst am_cc1 dc229_1.2.1.2 ?_
      refine am_s_iconst am_cc1 dc229_1.2.2.1 ?_
      refine am_s_virtual true dc229_1.2.2.2 rfl (by decide) rfl rfl rfl (am_mth_of rfl rfl ?_)
      refine am_s_iload_n rfl dc189_0.1.1.1 ?_
      refine am_s_if_ne dc189_0.1.1.2 rfl (fun _ => ?_) (fun z => absurd z (by decide))
      refine am_s_aload_n rfl dc189_2.1.1 ?_
      refine am_x_getI (x := 0) dc189_2.1.2.1 rfl rfl (Or.inl rfl) rfl ?_
      refine am_s_if_ne dc189_2.1.2.2 rfl (fun z => absurd z (by decide)) (fun _ => ?_)
      refine am_s_iconst am_cc1 dc189_2.2.1.1 ?_
      refine am_s_goto rfl dc189_2.2.1.2 ?_
      refine am_s_zreturn dc189_2.2.2.2 rfl (by decide) (am_bkI ?_)
      refine am_s_if_ne dc229_2.1.1.1 rfl (fun _ => ?_) (fun z => absurd z (by decide))
      refine am_s_aload_n rfl dc229_2.1.2.2 ?_
      refine am_s_iload_n rfl dc229_2.2.1.1 ?_
      refine am_s_virtual true dc229_2.2.1.2 rfl (by decide) rfl rfl rfl (am_mth_of rfl rfl ?_)
      refine am_s_aload_n rfl dc204_0.1.1.1 ?_
      refine am_s_iconst am_cc0 dc204_0.1.1.2 ?_
      refine am_s_putI dc204_0.1.2.1 rfl rfl rfl rfl ?_
      refine am_s_aload_n rfl dc204_0.1.2.2 ?_
      refine am_s_iconst am_ccm1 dc204_0.2.1.1 ?_
      refine am_s_putI dc204_0.2.1.2 rfl rfl rfl rfl ?_
      refine am_s_aload_n rfl dc204_0.2.2.1 ?_
      refine am_s_iload_n rfl dc204_0.2.2.2 ?_
      refine am_s_putI dc204_1.1.1.1 rfl rfl rfl rfl ?_
      refine am_s_aload_n rfl dc204_1.1.1.2 ?_
      refine am_s_iconst am_cc0 dc204_1.1.2.1 ?_
      refine am_s_putI dc204_1.1.2.2 rfl rfl rfl rfl ?_
      refine am_s_aload_n rfl dc204_1.2.1.1 ?_
      refine am_s_iconst am_ccm1 dc204_1.2.1.2 ?_
      refine am_s_putI dc204_1.2.2.1 rfl rfl rfl rfl ?_
      refine am_s_aload_n rfl dc204_1.2.2.2 ?_
      refine am_s_iconst am_cc0 dc204_2.1.1 ?_
      refine am_s_putI dc204_2.1.2.1 rfl rfl rfl rfl ?_
      refine am_s_aload_n rfl dc204_2.1.2.2 ?_
      refine am_s_iconst am_ccm1 dc204_2.2.1 ?_
      refine am_s_putI dc204_2.2.2.1 rfl rfl rfl rfl ?_
      refine am_s_return dc204_2.2.2.2 rfl (am_bkV ?_)
      refine am_s_aload_n rfl dc229_2.2.2.1 ?_
      exact am_s_virtual true dc229_2.2.2.2 rfl (by decide) rfl rfl rfl ((vi_f (vi_f q c1) c2))
theorem v229_44 {sc : Option (Nat × (Nat → Int32))} {d k n : Nat} {P : am_O → Prop} {I : am_I} {J : am_J} {Pf : am_R} (hp : am_PF Pf) {l1 : Option Value} {x2 : Int32} {l3 : Option Value} {l4 : Option Value} {l5 : Option Value} (q : (if (I 163 5) = (-1) then (am_mth (d + 1) 203 [.ref 163] (am_SH, I, J, Pf) (am_af sc (d + 1) 229 52 [some (.ref 163), l1, some (.int x2), l3, l4, l5] [.ref 163] [] (am_SH, I, J, Pf) k n true P)) else (am_go sc (d + 1) 229 (170, [some (.ref 163), l1, some (.int x2), l3, l4, l5], [], (am_SH, I, J, Pf), k, n) P))) : am_go sc (d + 1) 229 (44, [some (.ref 163), l1, some (.int x2), l3, l4, l5], [], (am_SH, I, J, Pf), k, n) P := by
  refine am_s_aload_n rfl dc229_3.1.2.1 ?_
  refine am_s_virtual true dc229_3.1.2.2 rfl (by decide) rfl rfl rfl (am_mth_of rfl rfl ?_)
  refine am_s_aload_n rfl dc193_0.1.1.1 ?_
  refine am_x_getI (x := I 163 5) dc193_0.1.1.2 rfl rfl (Or.inl rfl) rfl ?_
  refine am_s_iconst am_ccm1 dc193_0.1.2.1 ?_
  refine am_s_ic_ne dc193_0.1.2.2 rfl (fun c1 => ?_) (fun c1 => ?_)
  · refine am_s_iconst am_cc0 dc193_0.2.2.1 ?_
    refine am_s_zreturn dc193_0.2.2.2 rfl (by decide) (am_bkI ?_)
    refine am_s_if_eq dc229_3.2.1.1 rfl (fun _ => ?_) (fun z => absurd z (by decide))
    exact (vi_f q c1)
  · refine am_s_iconst am_cc1 dc193_0.2.1.1 ?_
    refine am_s_goto rfl dc193_0.2.1.2 ?_
    refine am_s_zreturn dc193_0.2.2.2 rfl (by decide) (am_bkI ?_)
    refine am_s_if_eq dc229_3.2.1.1 rfl (fun z => absurd z (by decide)) (fun _ => ?_)
    refine am_s_aload_n rfl dc229_3.2.1.2 ?_
    exact am_s_virtual true dc229_3.2.2.1 rfl (by decide) rfl rfl rfl ((vi_t q (Decidable.not_not.mp c1)))
theorem v229_120 {sc : Option (Nat × (Nat → Int32))} {d k n : Nat} {P : am_O → Prop} {I : am_I} {J : am_J} {Pf : am_R} (hp : am_PF Pf) {l1 : Option Value} {x2 : Int32} {x3 : Int32} {l4 : Option Value} {x5 : Int32} (q : (if (I 163 5) = (-1) then (if (I 163 4) = (-1) then (am_mth (d + 1) 200 [.ref 163] (am_SH, am_u (am_u I 163 5 (I 163 4)) 163 6 3, J, Pf) (am_af sc (d + 1) 229 140 [some (.ref 163), l1, some (.int x2), some (.int x3), l4, some (.int x5)] [.ref 163] [] (am_SH, am_u (am_u I 163 5 (I 163 4)) 163 6 3, J, Pf) k n true P)) else (am_go sc (d + 1) 229 (170, [some (.ref 163), l1, some (.int x2), some (.int x3), l4, some (.int x5)], [], (am_SH, am_u (am_u I 163 5 (I 163 4)) 163 6 3, J, Pf), k, n) P)) else (am_go sc (d + 1) 229 (170, [some (.ref 163), l1, some (.int x2), some (.int x3), l4, some (.int x5)], [], (am_SH, I, J, Pf), k, n) P))) : am_go sc (d + 1) 229 (120, [some (.ref 163), l1, some (.int x2), some (.int x3), l4, some (.int x5)], [], (am_SH, I, J, Pf), k, n) P := by
  refine am_s_aload_n rfl dc229_7.2.2.2 ?_
  refine am_s_iconst am_cc3 dc229_8.1.1.1 ?_
  refine am_s_aload_n rfl dc229_8.1.1.2 ?_
  refine am_x_getI (x := I 163 4) dc229_8.1.2.1 rfl rfl (Or.inl rfl) rfl ?_
  refine am_s_virtual true dc229_8.1.2.2 rfl (by decide) rfl rfl rfl (am_mth_of rfl rfl ?_)
  refine am_s_aload_n rfl dc194_0.1.1.1 ?_
  refine am_x_getI (x := I 163 5) dc194_0.1.1.2 rfl rfl (Or.inl rfl) rfl ?_
  refine am_s_iconst am_ccm1 dc194_0.1.2.1 ?_
  refine am_s_ic_eq dc194_0.1.2.2 rfl (fun c1 => ?_) (fun c1 => ?_)
  · refine am_s_aload_n rfl dc194_0.2.1.2 ?_
    refine am_s_iload_n rfl dc194_0.2.2.1 ?_
    refine am_s_putI dc194_0.2.2.2 rfl rfl rfl rfl ?_
    refine am_s_aload_n rfl dc194_1.1.1 ?_
    refine am_s_iload_n rfl dc194_1.1.2 ?_
    refine am_s_putI dc194_1.2.1 rfl rfl rfl rfl ?_
    refine am_s_return dc194_1.2.2 rfl (am_bkV ?_)
    refine am_s_aload_n rfl dc229_8.2.1.1 ?_
    refine am_s_virtual true dc229_8.2.1.2 rfl (by decide) rfl rfl rfl (am_mth_of rfl rfl ?_)
    refine am_s_aload_n rfl dc193_0.1.1.1 ?_
    refine am_x_getI (x := I 163 4) dc193_0.1.1.2 rfl rfl (Or.inl rfl) rfl ?_
    refine am_s_iconst am_ccm1 dc193_0.1.2.1 ?_
    refine am_s_ic_ne dc193_0.1.2.2 rfl (fun c2 => ?_) (fun c2 => ?_)
    · refine am_s_iconst am_cc0 dc193_0.2.2.1 ?_
      refine am_s_zreturn dc193_0.2.2.2 rfl (by decide) (am_bkI ?_)
      refine am_s_if_ne dc229_8.2.2.1 rfl (fun z => absurd z (by decide)) (fun _ => ?_)
      refine am_s_goto rfl dc229_8.2.2.2 ?_
      exact (vi_f (vi_t q c1) c2)
    · refine am_s_iconst am_cc1 dc193_0.2.1.1 ?_
      refine am_s_goto rfl dc193_0.2.1.2 ?_
      refine am_s_zreturn dc193_0.2.2.2 rfl (by decide) (am_bkI ?_)
      refine am_s_if_ne dc229_8.2.2.1 rfl (fun _ => ?_) (fun z => absurd z (by decide))
      refine am_s_aload_n rfl dc229_9.1.1.1 ?_
      exact am_s_virtual true dc229_9.1.1.2 rfl (by decide) rfl rfl rfl ((vi_t (vi_t q c1) (Decidable.not_not.mp c2)))
  · refine am_s_return dc194_0.2.1.1 rfl (am_bkV ?_)
    refine am_s_aload_n rfl dc229_8.2.1.1 ?_
    refine am_s_virtual true dc229_8.2.1.2 rfl (by decide) rfl rfl rfl (am_mth_of rfl rfl ?_)
    refine am_s_aload_n rfl dc193_0.1.1.1 ?_
    refine am_x_getI (x := I 163 5) dc193_0.1.1.2 rfl rfl (Or.inl rfl) rfl ?_
    refine am_s_iconst am_ccm1 dc193_0.1.2.1 ?_
    refine am_s_ic_ne dc193_0.1.2.2 rfl (fun _ => ?_) (fun z => absurd c1 z)
    refine am_s_iconst am_cc0 dc193_0.2.2.1 ?_
    refine am_s_zreturn dc193_0.2.2.2 rfl (by decide) (am_bkI ?_)
    refine am_s_if_ne dc229_8.2.2.1 rfl (fun z => absurd z (by decide)) (fun _ => ?_)
    refine am_s_goto rfl dc229_8.2.2.2 ?_
    exact (vi_f q c1)
theorem v229_170 {sc : Option (Nat × (Nat → Int32))} {d k n : Nat} {P : am_O → Prop} {I : am_I} {J : am_J} {Pf : am_R} (hp : am_PF Pf) {l1 : Option Value} {x2 : Int32} {l3 : Option Value} {l4 : Option Value} {l5 : Option Value} (q : (if (I 163 5) = (-1) then (am_mth (d + 1) 231 [.ref 163, .ref 166] (am_SH, I, J, Pf) (am_af sc (d + 1) 229 182 [some (.ref 163), l1, some (.int x2), l3, l4, l5] [.ref 166, .ref 163] [] (am_SH, I, J, Pf) k n true P)) else (am_go sc (d + 1) 229 (271, [some (.ref 163), l1, some (.int x2), l3, l4, l5], [], (am_SH, I, J, Pf), k, n) P))) : am_go sc (d + 1) 229 (170, [some (.ref 163), l1, some (.int x2), l3, l4, l5], [], (am_SH, I, J, Pf), k, n) P := by
  refine am_s_aload_n rfl dc229_10.2.2.2 ?_
  refine am_s_virtual true dc229_11.1.1.1 rfl (by decide) rfl rfl rfl (am_mth_of rfl rfl ?_)
  refine am_s_aload_n rfl dc193_0.1.1.1 ?_
  refine am_x_getI (x := I 163 5) dc193_0.1.1.2 rfl rfl (Or.inl rfl) rfl ?_
  refine am_s_iconst am_ccm1 dc193_0.1.2.1 ?_
  refine am_s_ic_ne dc193_0.1.2.2 rfl (fun c1 => ?_) (fun c1 => ?_)
  · refine am_s_iconst am_cc0 dc193_0.2.2.1 ?_
    refine am_s_zreturn dc193_0.2.2.2 rfl (by decide) (am_bkI ?_)
    refine am_s_if_eq dc229_11.1.1.2 rfl (fun _ => ?_) (fun z => absurd z (by decide))
    exact (vi_f q c1)
  · refine am_s_iconst am_cc1 dc193_0.2.1.1 ?_
    refine am_s_goto rfl dc193_0.2.1.2 ?_
    refine am_s_zreturn dc193_0.2.2.2 rfl (by decide) (am_bkI ?_)
    refine am_s_if_eq dc229_11.1.1.2 rfl (fun z => absurd z (by decide)) (fun _ => ?_)
    refine am_s_aload_n rfl dc229_11.1.2.1 ?_
    refine am_s_aload_n rfl dc229_11.1.2.2 ?_
    refine am_s_getR (r := 166) dc229_11.2.1.1 rfl rfl rfl (hp _ _ _ rfl) ?_
    exact am_s_virtual true dc229_11.2.1.2 rfl (by decide) rfl rfl rfl ((vi_t q (Decidable.not_not.mp c1)))
theorem v229_194 {sc : Option (Nat × (Nat → Int32))} {d k n : Nat} {P : am_O → Prop} {I : am_I} {J : am_J} {Pf : am_R} (hp : am_PF Pf) {l1 : Option Value} {x2 : Int32} {x3 : Int32} {l4 : Option Value} {l5 : Option Value} (hl1 : am_k1 l1 = true) (q : (if x3 < 0 then (am_go sc d 229 (271, [some (.ref 163), l1, some (.int x2), some (.int x3), l4, l5], [], (am_SH, I, J, Pf), k, n) P) else (am_in ((1008 + (4 * x3)) + 1) 1040 = true) ∧ (am_in (I 166 (Int32.toNatClampNeg ((1008 + (4 * x3)) + 1))) 8 = true) ∧ (am_in (1008 + (4 * x3)) 1040 = true) ∧ (if (((I 170 (Int32.toNatClampNeg (I 166 (Int32.toNatClampNeg ((1008 + (4 * x3)) + 1))))) >>> ((I 166 (Int32.toNatClampNeg (1008 + (4 * x3)))) &&& 31)) &&& 1) = 0 then (am_go sc d 229 (194, [some (.ref 163), l1, some (.int x2), some (.int (x3 + (-1))), some (.int (1008 + (4 * x3))), l5], [], (am_SH, I, J, Pf), k, n) P) else (am_in ((1008 + (4 * x3)) + 2) 1040 = true) ∧ (am_in ((1008 + (4 * x3)) + 3) 1040 = true) ∧ (am_go sc d 229 (194, [some (.ref 163), l1, some (.int (I 166 (Int32.toNatClampNeg ((1008 + (4 * x3)) + 3)))), some (.int (x3 + (-1))), some (.int (1008 + (4 * x3))), l5], [], (am_SH, am_u (am_u I 163 5 (I 166 (Int32.toNatClampNeg ((1008 + (4 * x3)) + 2)))) 163 6 4, J, Pf), k, n) P)))) : am_go sc d 229 (194, [some (.ref 163), l1, some (.int x2), some (.int x3), l4, l5], [], (am_SH, I, J, Pf), k, n) P := by
  refine am_s_iload_n rfl dc229_12.2.1.2 ?_
  refine am_s_if_lt dc229_12.2.2.1 rfl (fun c1 => ?_) (fun c1 => ?_)
  · exact (vi_t q c1)
  · refine am_s_sipush am_cs1008 dc229_12.2.2.2 ?_
    refine am_s_iconst am_cc4 dc229_13.1.1.1 ?_
    refine am_s_iload_n rfl dc229_13.1.1.2 ?_
    refine am_s_imul dc229_13.1.2.1 ?_
    refine am_s_iadd dc229_13.1.2.2 ?_
    refine am_s_istore (ls' := [some (.ref 163), l1, some (.int x2), some (.int x3), some (.int (1008 + (4 * x3))), l5]) rfl rfl dc229_13.2.1.1 ?_
    refine am_s_aload_n rfl dc229_13.2.1.2 ?_
    refine am_s_getR (r := 170) dc229_13.2.2.1 rfl rfl rfl (hp _ _ _ rfl) ?_
    refine am_s_aload_n rfl dc229_13.2.2.2 ?_
    refine am_s_getR (r := 166) dc229_14.1.1.1 rfl rfl rfl (hp _ _ _ rfl) ?_
    refine am_s_iload rfl dc229_14.1.1.2 ?_
    refine am_s_iconst am_cc1 dc229_14.1.2.1 ?_
    refine am_s_iadd dc229_14.1.2.2 ?_
    refine am_x_iaload (x := I 166 (Int32.toNatClampNeg ((1008 + (4 * x3)) + 1))) dc229_14.2.1.1 rfl ((vi_f q c1).1) rfl rfl ?_
    refine am_x_iaload (x := I 170 (Int32.toNatClampNeg (I 166 (Int32.toNatClampNeg ((1008 + (4 * x3)) + 1))))) dc229_14.2.1.2 rfl ((vi_f q c1).2.1) rfl rfl ?_
    refine am_s_aload_n rfl dc229_14.2.2.1 ?_
    refine am_s_getR (r := 166) dc229_14.2.2.2 rfl rfl rfl (hp _ _ _ rfl) ?_
    refine am_s_iload rfl dc229_15.1.1.1 ?_
    refine am_x_iaload (x := I 166 (Int32.toNatClampNeg (1008 + (4 * x3)))) dc229_15.1.1.2 rfl ((vi_f q c1).2.2.1) rfl rfl ?_
    refine am_s_ishr dc229_15.1.2.1 ?_
    refine am_s_iconst am_cc1 dc229_15.1.2.2 ?_
    refine am_s_iand dc229_15.2.1.1 ?_
    refine am_s_if_ne dc229_15.2.1.2 rfl (fun c2 => ?_) (fun c2 => ?_)
    · refine am_s_aload_n rfl dc229_15.2.2.2 ?_
      refine am_s_aload_n rfl dc229_16.1.1.1 ?_
      refine am_s_getR (r := 166) dc229_16.1.1.2 rfl rfl rfl (hp _ _ _ rfl) ?_
      refine am_s_iload rfl dc229_16.1.2.1 ?_
      refine am_s_iconst am_cc2 dc229_16.1.2.2 ?_
      refine am_s_iadd dc229_16.2.1.1 ?_
      refine am_x_iaload (x := I 166 (Int32.toNatClampNeg ((1008 + (4 * x3)) + 2))) dc229_16.2.1.2 rfl ((vi_f (vi_f q c1).2.2.2 c2).1) rfl rfl ?_
      refine am_s_putI dc229_16.2.2.1 rfl rfl rfl rfl ?_
      refine am_s_aload_n rfl dc229_16.2.2.2 ?_
      refine am_s_iconst am_cc4 dc229_17.1.1.1 ?_
      refine am_s_putI dc229_17.1.1.2 rfl rfl rfl rfl ?_
      refine am_s_aload_n rfl dc229_17.1.2.1 ?_
      refine am_s_getR (r := 166) dc229_17.1.2.2 rfl rfl rfl (hp _ _ _ rfl) ?_
      refine am_s_iload rfl dc229_17.2.1.1 ?_
      refine am_s_iconst am_cc3 dc229_17.2.1.2 ?_
      refine am_s_iadd dc229_17.2.2.1 ?_
      refine am_x_iaload (x := I 166 (Int32.toNatClampNeg ((1008 + (4 * x3)) + 3))) dc229_17.2.2.2 rfl ((vi_f (vi_f q c1).2.2.2 c2).2.1) rfl rfl ?_
      refine am_s_istore_n (ls' := [some (.ref 163), l1, some (.int (I 166 (Int32.toNatClampNeg ((1008 + (4 * x3)) + 3)))), some (.int x3), some (.int (1008 + (4 * x3))), l5]) rfl (am_set1_k (am_kill_x (j := 1) rfl hl1) rfl) dc229_18.1.1.1 ?_
      refine am_s_iinc (ls' := [some (.ref 163), l1, some (.int (I 166 (Int32.toNatClampNeg ((1008 + (4 * x3)) + 3)))), some (.int (x3 + (-1))), some (.int (1008 + (4 * x3))), l5]) am_ccm1 rfl rfl dc229_18.1.1.2 ?_
      refine am_s_goto rfl dc229_18.1.2.1 ?_
      exact (vi_f (vi_f q c1).2.2.2 c2).2.2
    · refine am_s_goto rfl dc229_15.2.2.1 ?_
      refine am_s_iinc (ls' := [some (.ref 163), l1, some (.int x2), some (.int (x3 + (-1))), some (.int (1008 + (4 * x3))), l5]) am_ccm1 rfl rfl dc229_18.1.1.2 ?_
      refine am_s_goto rfl dc229_18.1.2.1 ?_
      exact (vi_t (vi_f q c1).2.2.2 (Decidable.not_not.mp c2))
theorem v229_271 {sc : Option (Nat × (Nat → Int32))} {d k n : Nat} {P : am_O → Prop} {I : am_I} {J : am_J} {Pf : am_R} (hp : am_PF Pf) {l1 : Option Value} {x2 : Int32} {l3 : Option Value} {l4 : Option Value} {l5 : Option Value} (q : (if (I 163 5) = (-1) then (am_mth (d + 2) 209 [.ref 163] (am_SH, am_u I 163 8 (I 163 5), J, Pf) (am_af sc (d + 2) 229 291 [some (.ref 163), l1, some (.int x2), some (.int (I 166 1)), l4, l5] [.ref 163] [] (am_SH, am_u I 163 8 (I 163 5), J, Pf) k n true P)) else (am_mth (d + 2) 231 [.ref 163, .ref 167] (am_SH, am_u (am_u I 163 8 (I 163 5)) 163 10 x2, J, Pf) (am_af sc (d + 2) 229 307 [some (.ref 163), l1, some (.int x2), some (.int ((I 163 6) - 10)), l4, l5] [.ref 167, .ref 163] [] (am_SH, am_u (am_u I 163 8 (I 163 5)) 163 10 x2, J, Pf) k n true P)))) : am_go sc (d + 2) 229 (271, [some (.ref 163), l1, some (.int x2), l3, l4, l5], [], (am_SH, I, J, Pf), k, n) P := by
  refine am_s_aload_n rfl dc229_18.1.2.2 ?_
  refine am_s_aload_n rfl dc229_18.2.1.1 ?_
  refine am_s_getR (r := 166) dc229_18.2.1.2 rfl rfl rfl (hp _ _ _ rfl) ?_
  refine am_s_iconst am_cc1 dc229_18.2.2.1 ?_
  refine am_x_iaload (x := I 166 1) dc229_18.2.2.2 rfl (by decide +kernel) am_cN1 rfl ?_
  refine am_s_virtual true dc229_19.1.1.1 rfl (by decide) rfl rfl rfl (am_mth_of rfl rfl ?_)
  refine am_s_aload_n rfl dc205_0.1.1.1 ?_
  refine am_s_aload_n rfl dc205_0.1.1.2 ?_
  refine am_x_getI (x := I 163 5) dc205_0.1.2.1 rfl rfl (Or.inl rfl) rfl ?_
  refine am_s_putI dc205_0.1.2.2 rfl rfl rfl rfl ?_
  refine am_s_aload_n rfl dc205_0.2.1.1 ?_
  refine am_s_virtual true dc205_0.2.1.2 rfl (by decide) rfl rfl rfl (am_mth_of rfl rfl ?_)
  refine am_s_aload_n rfl dc193_0.1.1.1 ?_
  refine am_x_getI (x := I 163 5) dc193_0.1.1.2 rfl rfl (Or.inl rfl) rfl ?_
  refine am_s_iconst am_ccm1 dc193_0.1.2.1 ?_
  refine am_s_ic_ne dc193_0.1.2.2 rfl (fun c1 => ?_) (fun c1 => ?_)
  · refine am_s_iconst am_cc0 dc193_0.2.2.1 ?_
    refine am_s_zreturn dc193_0.2.2.2 rfl (by decide) (am_bkI ?_)
    refine am_s_if_eq dc205_0.2.2.1 rfl (fun _ => ?_) (fun z => absurd z (by decide))
    refine am_s_aload_n rfl dc205_1.1.2.1 ?_
    refine am_x_getI (x := I 163 6) dc205_1.1.2.2 rfl rfl (Or.inl rfl) rfl ?_
    refine am_s_bipush am_cb10 dc205_1.2.1 ?_
    refine am_s_isub dc205_1.2.2.1 ?_
    refine am_s_ireturn dc205_1.2.2.2 rfl (am_bkI ?_)
    refine am_s_istore_n (ls' := [some (.ref 163), l1, some (.int x2), some (.int ((I 163 6) - 10)), l4, l5]) rfl rfl dc229_19.1.1.2 ?_
    refine am_s_aload_n rfl dc229_19.1.2.1 ?_
    refine am_x_getI (x := I 163 5) dc229_19.1.2.2 rfl rfl (Or.inl rfl) rfl ?_
    refine am_s_iconst am_ccm1 dc229_19.2.1.1 ?_
    refine am_s_ic_ne dc229_19.2.1.2 rfl (fun _ => ?_) (fun z => absurd c1 z)
    refine am_s_aload_n rfl dc229_20.1.1.2 ?_
    refine am_s_iload_n rfl dc229_20.1.2.1 ?_
    refine am_s_putI dc229_20.1.2.2 rfl rfl rfl rfl ?_
    refine am_s_aload_n rfl dc229_20.2.1.1 ?_
    refine am_s_aload_n rfl dc229_20.2.1.2 ?_
    refine am_s_getR (r := 167) dc229_20.2.2.1 rfl rfl rfl (hp _ _ _ rfl) ?_
    exact am_s_virtual true dc229_20.2.2.2 rfl (by decide) rfl rfl rfl ((vi_f q c1))
  · refine am_s_iconst am_cc1 dc193_0.2.1.1 ?_
    refine am_s_goto rfl dc193_0.2.1.2 ?_
    refine am_s_zreturn dc193_0.2.2.2 rfl (by decide) (am_bkI ?_)
    refine am_s_if_eq dc205_0.2.2.1 rfl (fun z => absurd z (by decide)) (fun _ => ?_)
    refine am_s_iload_n rfl dc205_0.2.2.2 ?_
    refine am_s_goto rfl dc205_1.1.1 ?_
    refine am_s_ireturn dc205_1.2.2.2 rfl (am_bkI ?_)
    refine am_s_istore_n (ls' := [some (.ref 163), l1, some (.int x2), some (.int (I 166 1)), l4, l5]) rfl rfl dc229_19.1.1.2 ?_
    refine am_s_aload_n rfl dc229_19.1.2.1 ?_
    refine am_x_getI (x := I 163 5) dc229_19.1.2.2 rfl rfl (Or.inl rfl) rfl ?_
    refine am_s_iconst am_ccm1 dc229_19.2.1.1 ?_
    refine am_s_ic_ne dc229_19.2.1.2 rfl (fun z => absurd z c1) (fun _ => ?_)
    refine am_s_aload_n rfl dc229_19.2.2.1 ?_
    exact am_s_virtual true dc229_19.2.2.2 rfl (by decide) rfl rfl rfl ((vi_t q (Decidable.not_not.mp c1)))
theorem v229_42 {sc : Option (Nat × (Nat → Int32))} {d k n : Nat} {P : am_O → Prop} {I : am_I} {J : am_J} {Pf : am_R} (hp : am_PF Pf) {l1 : Option Value} {l2 : Option Value} {l3 : Option Value} {l4 : Option Value} {l5 : Option Value} (hl1 : am_k1 l1 = true) (q : (am_go sc d 229 (44, [some (.ref 163), l1, some (.int 0), l3, l4, l5], [], (am_SH, I, J, Pf), k, n) P)) : am_go sc d 229 (42, [some (.ref 163), l1, l2, l3, l4, l5], [], (am_SH, I, J, Pf), k, n) P := by
  refine am_s_iconst am_cc0 dc229_3.1.1.1 ?_
  refine am_s_istore_n (ls' := [some (.ref 163), l1, some (.int 0), l3, l4, l5]) rfl (am_set1_k (am_kill_x (j := 1) rfl hl1) rfl) dc229_3.1.1.2 ?_
  exact q
theorem v229_55 {sc : Option (Nat × (Nat → Int32))} {d k n : Nat} {P : am_O → Prop} {I : am_I} {J : am_J} {Pf : am_R} (hp : am_PF Pf) {l1 : Option Value} {x2 : Int32} {l3 : Option Value} {l4 : Option Value} {l5 : Option Value} {s0 : Int32} (q : (if s0 = 0 then (am_go sc d 229 (170, [some (.ref 163), l1, some (.int x2), l3, l4, l5], [], (am_SH, I, J, Pf), k, n) P) else (am_mth d 198 [.ref 163] (am_SH, I, J, Pf) (am_af sc d 229 59 [some (.ref 163), l1, some (.int x2), l3, l4, l5] [.ref 163] [] (am_SH, I, J, Pf) k n true P)))) : am_go sc d 229 (55, [some (.ref 163), l1, some (.int x2), l3, l4, l5], [.int s0], (am_SH, I, J, Pf), k, n) P := by
  refine am_s_if_eq dc229_3.2.2.2 rfl (fun c1 => ?_) (fun c1 => ?_)
  · exact (vi_t q c1)
  · refine am_s_aload_n rfl dc229_4.1.1.1 ?_
    exact am_s_virtual true dc229_4.1.1.2 rfl (by decide) rfl rfl rfl ((vi_f q c1))
theorem v229_143 {sc : Option (Nat × (Nat → Int32))} {d k n : Nat} {P : am_O → Prop} {I : am_I} {J : am_J} {Pf : am_R} (hp : am_PF Pf) {l1 : Option Value} {x2 : Int32} {x3 : Int32} {l4 : Option Value} {x5 : Int32} (q : (am_mth d 228 [.ref 163, .int x3, .int x5, .int x2] (am_SH, I, J, Pf) (am_af sc d 229 148 [some (.ref 163), l1, some (.int x2), some (.int x3), l4, some (.int x5)] [.int x2, .int x5, .int x3, .ref 163] [] (am_SH, I, J, Pf) k n true P))) : am_go sc d 229 (143, [some (.ref 163), l1, some (.int x2), some (.int x3), l4, some (.int x5)], [], (am_SH, I, J, Pf), k, n) P := by
  refine am_s_aload_n rfl dc229_9.1.2.1 ?_
  refine am_s_iload_n rfl dc229_9.1.2.2 ?_
  refine am_s_iload rfl dc229_9.2.1.1 ?_
  refine am_s_iload_n rfl dc229_9.2.1.2 ?_
  exact am_s_virtual true dc229_9.2.2.1 rfl (by decide) rfl rfl rfl (q)
theorem v229_185 {sc : Option (Nat × (Nat → Int32))} {d k n : Nat} {P : am_O → Prop} {I : am_I} {J : am_J} {Pf : am_R} (hp : am_PF Pf) {l1 : Option Value} {x2 : Int32} {l3 : Option Value} {l4 : Option Value} {l5 : Option Value} (q : (am_go sc d 229 (194, [some (.ref 163), l1, some (.int x2), some (.int ((I 166 4) - 1)), l4, l5], [], (am_SH, I, J, Pf), k, n) P)) : am_go sc d 229 (185, [some (.ref 163), l1, some (.int x2), l3, l4, l5], [], (am_SH, I, J, Pf), k, n) P := by
  refine am_s_aload_n rfl dc229_11.2.2.1 ?_
  refine am_s_getR (r := 166) dc229_11.2.2.2 rfl rfl rfl (hp _ _ _ rfl) ?_
  refine am_s_iconst am_cc4 dc229_12.1.1.1 ?_
  refine am_x_iaload (x := I 166 4) dc229_12.1.1.2 rfl (by decide +kernel) am_cN4 rfl ?_
  refine am_s_iconst am_cc1 dc229_12.1.2.1 ?_
  refine am_s_isub dc229_12.1.2.2 ?_
  refine am_s_istore_n (ls' := [some (.ref 163), l1, some (.int x2), some (.int ((I 166 4) - 1)), l4, l5]) rfl rfl dc229_12.2.1.1 ?_
  exact q
theorem v229_294 {sc : Option (Nat × (Nat → Int32))} {d k n : Nat} {P : am_O → Prop} {I : am_I} {J : am_J} {Pf : am_R} (hp : am_PF Pf) {l0 : Option Value} {l1 : Option Value} {l2 : Option Value} {x3 : Int32} {l4 : Option Value} {l5 : Option Value} (q : (P (.inl (some (.int x3)), (am_SH, I, J, Pf), k, n))) : am_go sc d 229 (294, [l0, l1, l2, some (.int x3), l4, l5], [], (am_SH, I, J, Pf), k, n) P := by
  refine am_s_goto rfl dc229_20.1.1.1 ?_
  refine am_s_iload_n rfl dc229_21.1 ?_
  exact am_s_ireturn dc229_21.2 rfl (q)
theorem v229_310 {sc : Option (Nat × (Nat → Int32))} {d k n : Nat} {P : am_O → Prop} {I : am_I} {J : am_J} {Pf : am_R} (hp : am_PF Pf) {l0 : Option Value} {l1 : Option Value} {l2 : Option Value} {x3 : Int32} {l4 : Option Value} {l5 : Option Value} (q : (P (.inl (some (.int x3)), (am_SH, I, J, Pf), k, n))) : am_go sc d 229 (310, [l0, l1, l2, some (.int x3), l4, l5], [], (am_SH, I, J, Pf), k, n) P := by
  refine am_s_iload_n rfl dc229_21.1 ?_
  exact am_s_ireturn dc229_21.2 rfl (q)
theorem v229_62 {sc : Option (Nat × (Nat → Int32))} {d k n : Nat} {P : am_O → Prop} {I : am_I} {J : am_J} {Pf : am_R} (hp : am_PF Pf) {l1 : Option Value} {x2 : Int32} {l3 : Option Value} {l4 : Option Value} {l5 : Option Value} {s0 : Int32} (q : (am_mth d 222 [.int s0] (am_SH, I, J, Pf) (am_af sc d 229 64 [some (.ref 163), l1, some (.int x2), some (.int s0), l4, l5] [.int s0] [] (am_SH, I, J, Pf) k n false P))) : am_go sc d 229 (62, [some (.ref 163), l1, some (.int x2), l3, l4, l5], [.int s0], (am_SH, I, J, Pf), k, n) P := by
  refine am_s_istore_n (ls' := [some (.ref 163), l1, some (.int x2), some (.int s0), l4, l5]) rfl rfl dc229_4.1.2.1 ?_
  refine am_s_iload_n rfl dc229_4.1.2.2 ?_
  exact am_s_static dc229_4.2.1.1 rfl rfl rfl (q)
theorem v229_151 {sc : Option (Nat × (Nat → Int32))} {d k n : Nat} {P : am_O → Prop} {I : am_I} {J : am_J} {Pf : am_R} (hp : am_PF Pf) {l1 : Option Value} {x2 : Int32} {l3 : Option Value} {l4 : Option Value} {l5 : Option Value} (q : (am_mth d 202 [.ref 163, .int 59] (am_SH, I, J, Pf) (am_af sc d 229 154 [some (.ref 163), l1, some (.int x2), l3, l4, l5] [.int 59, .ref 163] [] (am_SH, I, J, Pf) k n true P))) : am_go sc d 229 (151, [some (.ref 163), l1, some (.int x2), l3, l4, l5], [], (am_SH, I, J, Pf), k, n) P := by
  refine am_s_aload_n rfl dc229_9.2.2.2 ?_
  refine am_s_bipush am_cb59 dc229_10.1.1.1 ?_
  exact am_s_virtual true dc229_10.1.1.2 rfl (by decide) rfl rfl rfl (q)
theorem v229_67 {sc : Option (Nat × (Nat → Int32))} {d k n : Nat} {P : am_O → Prop} {I : am_I} {J : am_J} {Pf : am_R} (hp : am_PF Pf) {l1 : Option Value} {x2 : Int32} {x3 : Int32} {l4 : Option Value} {l5 : Option Value} {s0 : Int32} (q : (if s0 = (-1) then (if (I 163 5) = (-1) then (if (I 163 4) = (-1) then (am_mth (d + 1) 200 [.ref 163] (am_SH, am_u (am_u I 163 5 (I 163 4)) 163 6 1, J, Pf) (am_af sc (d + 1) 229 140 [some (.ref 163), l1, some (.int x2), some (.int x3), some (.int s0), some (.int (I 163 4))] [.ref 163] [] (am_SH, am_u (am_u I 163 5 (I 163 4)) 163 6 1, J, Pf) k n true P)) else (am_go sc (d + 1) 229 (170, [some (.ref 163), l1, some (.int x2), some (.int x3), some (.int s0), some (.int (I 163 4))], [], (am_SH, am_u (am_u I 163 5 (I 163 4)) 163 6 1, J, Pf), k, n) P)) else (am_go sc (d + 1) 229 (170, [some (.ref 163), l1, some (.int x2), some (.int x3), some (.int s0), some (.int (I 163 4))], [], (am_SH, I, J, Pf), k, n) P)) else (if x2 = 60 then (am_go sc (d + 1) 229 (120, [some (.ref 163), l1, some (.int x2), some (.int x3), some (.int s0), some (.int (I 163 4))], [], (am_SH, I, J, Pf), k, n) P) else (if s0 = 5 then (if (I 163 5) = (-1) then (am_mth (d + 1) 200 [.ref 163] (am_SH, I, J, Pf) (am_af sc (d + 1) 229 140 [some (.ref 163), l1, some (.int x2), some (.int x3), some (.int s0), some (.int (I 163 4))] [.ref 163] [] (am_SH, I, J, Pf) k n true P)) else (am_go sc (d + 1) 229 (170, [some (.ref 163), l1, some (.int x2), some (.int x3), some (.int s0), some (.int (I 163 4))], [], (am_SH, I, J, Pf), k, n) P)) else (am_in s0 1040 = true) ∧ (if s0 = 0 then (if (I 166 (Int32.toNatClampNeg s0)) = 8 then (am_go sc (d + 1) 229 (120, [some (.ref 163), l1, some (.int x2), some (.int x3), some (.int s0), some (.int (I 163 4))], [], (am_SH, I, J, Pf), k, n) P) else (if (I 163 5) = (-1) then (am_mth (d + 1) 200 [.ref 163] (am_SH, I, J, Pf) (am_af sc (d + 1) 229 140 [some (.ref 163), l1, some (.int x2), some (.int x3), some (.int s0), some (.int (I 163 4))] [.ref 163] [] (am_SH, I, J, Pf) k n true P)) else (am_go sc (d + 1) 229 (170, [some (.ref 163), l1, some (.int x2), some (.int x3), some (.int s0), some (.int (I 163 4))], [], (am_SH, I, J, Pf), k, n) P))) else (if s0 = 1 then (if (I 166 (Int32.toNatClampNeg s0)) = 20 then (am_go sc (d + 1) 229 (120, [some (.ref 163), l1, some (.int x2), some (.int x3), some (.int s0), some (.int (I 163 4))], [], (am_SH, I, J, Pf), k, n) P) else (if (I 163 5) = (-1) then (am_mth (d + 1) 200 [.ref 163] (am_SH, I, J, Pf) (am_af sc (d + 1) 229 140 [some (.ref 163), l1, some (.int x2), some (.int x3), some (.int s0), some (.int (I 163 4))] [.ref 163] [] (am_SH, I, J, Pf) k n true P)) else (am_go sc (d + 1) 229 (170, [some (.ref 163), l1, some (.int x2), some (.int x3), some (.int s0), some (.int (I 163 4))], [], (am_SH, I, J, Pf), k, n) P))) else (if s0 = 2 then (if (I 166 (Int32.toNatClampNeg s0)) = 4 then (am_go sc (d + 1) 229 (120, [some (.ref 163), l1, some (.int x2), some (.int x3), some (.int s0), some (.int (I 163 4))], [], (am_SH, I, J, Pf), k, n) P) else (if (I 163 5) = (-1) then (am_mth (d + 1) 200 [.ref 163] (am_SH, I, J, Pf) (am_af sc (d + 1) 229 140 [some (.ref 163), l1, some (.int x2), some (.int x3), some (.int s0), some (.int (I 163 4))] [.ref 163] [] (am_SH, I, J, Pf) k n true P)) else (am_go sc (d + 1) 229 (170, [some (.ref 163), l1, some (.int x2), some (.int x3), some (.int s0), some (.int (I 163 4))], [], (am_SH, I, J, Pf), k, n) P))) else (if s0 = 3 then (if (I 166 (Int32.toNatClampNeg s0)) = 8 then (am_go sc (d + 1) 229 (120, [some (.ref 163), l1, some (.int x2), some (.int x3), some (.int s0), some (.int (I 163 4))], [], (am_SH, I, J, Pf), k, n) P) else (if (I 163 5) = (-1) then (am_mth (d + 1) 200 [.ref 163] (am_SH, I, J, Pf) (am_af sc (d + 1) 229 140 [some (.ref 163), l1, some (.int x2), some (.int x3), some (.int s0), some (.int (I 163 4))] [.ref 163] [] (am_SH, I, J, Pf) k n true P)) else (am_go sc (d + 1) 229 (170, [some (.ref 163), l1, some (.int x2), some (.int x3), some (.int s0), some (.int (I 163 4))], [], (am_SH, I, J, Pf), k, n) P))) else (if (I 166 (Int32.toNatClampNeg s0)) = 8 then (am_go sc (d + 1) 229 (120, [some (.ref 163), l1, some (.int x2), some (.int x3), some (.int s0), some (.int (I 163 4))], [], (am_SH, I, J, Pf), k, n) P) else (if (I 163 5) = (-1) then (am_mth (d + 1) 200 [.ref 163] (am_SH, I, J, Pf) (am_af sc (d + 1) 229 140 [some (.ref 163), l1, some (.int x2), some (.int x3), some (.int s0), some (.int (I 163 4))] [.ref 163] [] (am_SH, I, J, Pf) k n true P)) else (am_go sc (d + 1) 229 (170, [some (.ref 163), l1, some (.int x2), some (.int x3), some (.int s0), some (.int (I 163 4))], [], (am_SH, I, J, Pf), k, n) P))))))))))) : am_go sc (d + 1) 229 (67, [some (.ref 163), l1, some (.int x2), some (.int x3), l4, l5], [.int s0], (am_SH, I, J, Pf), k, n) P := by
  refine am_s_istore (ls' := [some (.ref 163), l1, some (.int x2), some (.int x3), some (.int s0), l5]) rfl rfl dc229_4.2.1.2 ?_
  refine am_s_aload_n rfl dc229_4.2.2.1 ?_
  refine am_x_getI (x := I 163 4) dc229_4.2.2.2 rfl rfl (Or.inl rfl) rfl ?_
  refine am_s_istore (ls' := [some (.ref 163), l1, some (.int x2), some (.int x3), some (.int s0), some (.int (I 163 4))]) rfl rfl dc229_5.1.1.1 ?_
  refine am_s_iload rfl dc229_5.1.1.2 ?_
  refine am_s_iconst am_ccm1 dc229_5.1.2.1 ?_
  refine am_s_ic_ne dc229_5.1.2.2 rfl (fun c1 => ?_) (fun c1 => ?_)
  · refine am_s_iload_n rfl dc229_6.1.2.1 ?_
    refine am_s_bipush am_cb60 dc229_6.1.2.2 ?_
    refine am_s_ic_eq dc229_6.2.1.1 rfl (fun c2 => ?_) (fun c2 => ?_)
    · exact (vi_t (vi_f q c1) c2)
    · refine am_s_iload rfl dc229_6.2.1.2 ?_
      refine am_s_iconst am_cc5 dc229_6.2.2.1 ?_
      refine am_s_ic_eq dc229_6.2.2.2 rfl (fun c3 => ?_) (fun c3 => ?_)
      · refine am_s_aload_n rfl dc229_8.2.1.1 ?_
        refine am_s_virtual true dc229_8.2.1.2 rfl (by decide) rfl rfl rfl (am_mth_of rfl rfl ?_)
        refine am_s_aload_n rfl dc193_0.1.1.1 ?_
        refine am_x_getI (x := I 163 5) dc193_0.1.1.2 rfl rfl (Or.inl rfl) rfl ?_
        refine am_s_iconst am_ccm1 dc193_0.1.2.1 ?_
        refine am_s_ic_ne dc193_0.1.2.2 rfl (fun c4 => ?_) (fun c4 => ?_)
        · refine am_s_iconst am_cc0 dc193_0.2.2.1 ?_
          refine am_s_zreturn dc193_0.2.2.2 rfl (by decide) (am_bkI ?_)
          refine am_s_if_ne dc229_8.2.2.1 rfl (fun z => absurd z (by decide)) (fun _ => ?_)
          refine am_s_goto rfl dc229_8.2.2.2 ?_
          exact (vi_f (vi_t (vi_f (vi_f q c1) c2) c3) c4)
        · refine am_s_iconst am_cc1 dc193_0.2.1.1 ?_
          refine am_s_goto rfl dc193_0.2.1.2 ?_
          refine am_s_zreturn dc193_0.2.2.2 rfl (by decide) (am_bkI ?_)
          refine am_s_if_ne dc229_8.2.2.1 rfl (fun _ => ?_) (fun z => absurd z (by decide))
          refine am_s_aload_n rfl dc229_9.1.1.1 ?_
          exact am_s_virtual true dc229_9.1.1.2 rfl (by decide) rfl rfl rfl ((vi_t (vi_t (vi_f (vi_f q c1) c2) c3) (Decidable.not_not.mp c4)))
      · refine am_s_aload_n rfl dc229_7.1.1.1 ?_
        refine am_s_getR (r := 166) dc229_7.1.1.2 rfl rfl rfl (hp _ _ _ rfl) ?_
        refine am_s_iload rfl dc229_7.1.2.1 ?_
        refine am_x_iaload (x := I 166 (Int32.toNatClampNeg s0)) dc229_7.1.2.2 rfl ((vi_f (vi_f (vi_f q c1) c2) c3).1) rfl rfl ?_
        refine am_s_iload rfl dc229_7.2.1.1 ?_
        refine am_s_static dc229_7.2.1.2 rfl rfl rfl (am_mth_of rfl rfl ?_)
        refine am_s_iload_n rfl dc223_0.1.1.1 ?_
        refine am_s_if_ne dc223_0.1.1.2 rfl (fun c4 => ?_) (fun c4 => ?_)
        · refine am_s_iload_n rfl dc223_0.2.1.1 ?_
          refine am_s_iconst am_cc1 dc223_0.2.1.2 ?_
          refine am_s_ic_ne dc223_0.2.2.1 rfl (fun c5 => ?_) (fun c5 => ?_)
          · refine am_s_iload_n rfl dc223_1.1.1.2 ?_
            refine am_s_iconst am_cc2 dc223_1.1.2.1 ?_
            refine am_s_ic_ne dc223_1.1.2.2 rfl (fun c6 => ?_) (fun c6 => ?_)
            · refine am_s_iload_n rfl dc223_1.2.2.1 ?_
              refine am_s_iconst am_cc3 dc223_1.2.2.2 ?_
              refine am_s_ic_ne dc223_2.1.1 rfl (fun c7 => ?_) (fun c7 => ?_)
              · refine am_s_bipush am_cb8 dc223_2.2.2.1 ?_
                refine am_s_ireturn dc223_2.2.2.2 rfl (am_bkI ?_)
                refine am_s_ic_ne dc229_7.2.2.1 rfl (fun c8 => ?_) (fun c8 => ?_)
                · refine am_s_aload_n rfl dc229_8.2.1.1 ?_
                  refine am_s_virtual true dc229_8.2.1.2 rfl (by decide) rfl rfl rfl (am_mth_of rfl rfl ?_)
                  refine am_s_aload_n rfl dc193_0.1.1.1 ?_
                  refine am_x_getI (x := I 163 5) dc193_0.1.1.2 rfl rfl (Or.inl rfl) rfl ?_
                  refine am_s_iconst am_ccm1 dc193_0.1.2.1 ?_
                  refine am_s_ic_ne dc193_0.1.2.2 rfl (fun c9 => ?_) (fun c9 => ?_)
                  · refine am_s_iconst am_cc0 dc193_0.2.2.1 ?_
                    refine am_s_zreturn dc193_0.2.2.2 rfl (by decide) (am_bkI ?_)
                    refine am_s_if_ne dc229_8.2.2.1 rfl (fun z => absurd z (by decide)) (fun _ => ?_)
                    refine am_s_goto rfl dc229_8.2.2.2 ?_
                    exact (vi_f (vi_f (vi_f (vi_f (vi_f (vi_f (vi_f (vi_f (vi_f q c1) c2) c3).2 c4) c5) c6) c7) c8) c9)
                  · refine am_s_iconst am_cc1 dc193_0.2.1.1 ?_
                    refine am_s_goto rfl dc193_0.2.1.2 ?_
                    refine am_s_zreturn dc193_0.2.2.2 rfl (by decide) (am_bkI ?_)
                    refine am_s_if_ne dc229_8.2.2.1 rfl (fun _ => ?_) (fun z => absurd z (by decide))
                    refine am_s_aload_n rfl dc229_9.1.1.1 ?_
                    exact am_s_virtual true dc229_9.1.1.2 rfl (by decide) rfl rfl rfl ((vi_t (vi_f (vi_f (vi_f (vi_f (vi_f (vi_f (vi_f (vi_f q c1) c2) c3).2 c4) c5) c6) c7) c8) (Decidable.not_not.mp c9)))
                · exact (vi_t (vi_f (vi_f (vi_f (vi_f (vi_f (vi_f (vi_f q c1) c2) c3).2 c4) c5) c6) c7) (Decidable.not_not.mp c8))
              · refine am_s_bipush am_cb8 dc223_2.1.2 ?_
                refine am_s_goto rfl dc223_2.2.1 ?_
                refine am_s_ireturn dc223_2.2.2.2 rfl (am_bkI ?_)
                refine am_s_ic_ne dc229_7.2.2.1 rfl (fun c8 => ?_) (fun c8 => ?_)
                · refine am_s_aload_n rfl dc229_8.2.1.1 ?_
                  refine am_s_virtual true dc229_8.2.1.2 rfl (by decide) rfl rfl rfl (am_mth_of rfl rfl ?_)
                  refine am_s_aload_n rfl dc193_0.1.1.1 ?_
                  refine am_x_getI (x := I 163 5) dc193_0.1.1.2 rfl rfl (Or.inl rfl) rfl ?_
                  refine am_s_iconst am_ccm1 dc193_0.1.2.1 ?_
                  refine am_s_ic_ne dc193_0.1.2.2 rfl (fun c9 => ?_) (fun c9 => ?_)
                  · refine am_s_iconst am_cc0 dc193_0.2.2.1 ?_
                    refine am_s_zreturn dc193_0.2.2.2 rfl (by decide) (am_bkI ?_)
                    refine am_s_if_ne dc229_8.2.2.1 rfl (fun z => absurd z (by decide)) (fun _ => ?_)
                    refine am_s_goto rfl dc229_8.2.2.2 ?_
                    exact (vi_f (vi_f (vi_t (vi_f (vi_f (vi_f (vi_f (vi_f (vi_f q c1) c2) c3).2 c4) c5) c6) (Decidable.not_not.mp c7)) c8) c9)
                  · refine am_s_iconst am_cc1 dc193_0.2.1.1 ?_
                    refine am_s_goto rfl dc193_0.2.1.2 ?_
                    refine am_s_zreturn dc193_0.2.2.2 rfl (by decide) (am_bkI ?_)
                    refine am_s_if_ne dc229_8.2.2.1 rfl (fun _ => ?_) (fun z => absurd z (by decide))
                    refine am_s_aload_n rfl dc229_9.1.1.1 ?_
                    exact am_s_virtual true dc229_9.1.1.2 rfl (by decide) rfl rfl rfl ((vi_t (vi_f (vi_t (vi_f (vi_f (vi_f (vi_f (vi_f (vi_f q c1) c2) c3).2 c4) c5) c6) (Decidable.not_not.mp c7)) c8) (Decidable.not_not.mp c9)))
                · exact (vi_t (vi_t (vi_f (vi_f (vi_f (vi_f (vi_f (vi_f q c1) c2) c3).2 c4) c5) c6) (Decidable.not_not.mp c7)) (Decidable.not_not.mp c8))
            · refine am_s_iconst am_cc4 dc223_1.2.1.1 ?_
              refine am_s_goto rfl dc223_1.2.1.2 ?_
              refine am_s_ireturn dc223_2.2.2.2 rfl (am_bkI ?_)
              refine am_s_ic_ne dc229_7.2.2.1 rfl (fun c7 => ?_) (fun c7 => ?_)
              · refine am_s_aload_n rfl dc229_8.2.1.1 ?_
                refine am_s_virtual true dc229_8.2.1.2 rfl (by decide) rfl rfl rfl (am_mth_of rfl rfl ?_)
                refine am_s_aload_n rfl dc193_0.1.1.1 ?_
                refine am_x_getI (x := I 163 5) dc193_0.1.1.2 rfl rfl (Or.inl rfl) rfl ?_
                refine am_s_iconst am_ccm1 dc193_0.1.2.1 ?_
                refine am_s_ic_ne dc193_0.1.2.2 rfl (fun c8 => ?_) (fun c8 => ?_)
                · refine am_s_iconst am_cc0 dc193_0.2.2.1 ?_
                  refine am_s_zreturn dc193_0.2.2.2 rfl (by decide) (am_bkI ?_)
                  refine am_s_if_ne dc229_8.2.2.1 rfl (fun z => absurd z (by decide)) (fun _ => ?_)
                  refine am_s_goto rfl dc229_8.2.2.2 ?_
                  exact (vi_f (vi_f (vi_t (vi_f (vi_f (vi_f (vi_f (vi_f q c1) c2) c3).2 c4) c5) (Decidable.not_not.mp c6)) c7) c8)
                · refine am_s_iconst am_cc1 dc193_0.2.1.1 ?_
                  refine am_s_goto rfl dc193_0.2.1.2 ?_
                  refine am_s_zreturn dc193_0.2.2.2 rfl (by decide) (am_bkI ?_)
                  refine am_s_if_ne dc229_8.2.2.1 rfl (fun _ => ?_) (fun z => absurd z (by decide))
                  refine am_s_aload_n rfl dc229_9.1.1.1 ?_
                  exact am_s_virtual true dc229_9.1.1.2 rfl (by decide) rfl rfl rfl ((vi_t (vi_f (vi_t (vi_f (vi_f (vi_f (vi_f (vi_f q c1) c2) c3).2 c4) c5) (Decidable.not_not.mp c6)) c7) (Decidable.not_not.mp c8)))
              · exact (vi_t (vi_t (vi_f (vi_f (vi_f (vi_f (vi_f q c1) c2) c3).2 c4) c5) (Decidable.not_not.mp c6)) (Decidable.not_not.mp c7))
          · refine am_s_bipush am_cb20 dc223_0.2.2.2 ?_
            refine am_s_goto rfl dc223_1.1.1.1 ?_
            refine am_s_ireturn dc223_2.2.2.2 rfl (am_bkI ?_)
            refine am_s_ic_ne dc229_7.2.2.1 rfl (fun c6 => ?_) (fun c6 => ?_)
            · refine am_s_aload_n rfl dc229_8.2.1.1 ?_
              refine am_s_virtual true dc229_8.2.1.2 rfl (by decide) rfl rfl rfl (am_mth_of rfl rfl ?_)
              refine am_s_aload_n rfl dc193_0.1.1.1 ?_
              refine am_x_getI (x := I 163 5) dc193_0.1.1.2 rfl rfl (Or.inl rfl) rfl ?_
              refine am_s_iconst am_ccm1 dc193_0.1.2.1 ?_
              refine am_s_ic_ne dc193_0.1.2.2 rfl (fun c7 => ?_) (fun c7 => ?_)
              · refine am_s_iconst am_cc0 dc193_0.2.2.1 ?_
                refine am_s_zreturn dc193_0.2.2.2 rfl (by decide) (am_bkI ?_)
                refine am_s_if_ne dc229_8.2.2.1 rfl (fun z => absurd z (by decide)) (fun _ => ?_)
                refine am_s_goto rfl dc229_8.2.2.2 ?_
                exact (vi_f (vi_f (vi_t (vi_f (vi_f (vi_f (vi_f q c1) c2) c3).2 c4) (Decidable.not_not.mp c5)) c6) c7)
              · refine am_s_iconst am_cc1 dc193_0.2.1.1 ?_
                refine am_s_goto rfl dc193_0.2.1.2 ?_
                refine am_s_zreturn dc193_0.2.2.2 rfl (by decide) (am_bkI ?_)
                refine am_s_if_ne dc229_8.2.2.1 rfl (fun _ => ?_) (fun z => absurd z (by decide))
                refine am_s_aload_n rfl dc229_9.1.1.1 ?_
                exact am_s_virtual true dc229_9.1.1.2 rfl (by decide) rfl rfl rfl ((vi_t (vi_f (vi_t (vi_f (vi_f (vi_f (vi_f q c1) c2) c3).2 c4) (Decidable.not_not.mp c5)) c6) (Decidable.not_not.mp c7)))
            · exact (vi_t (vi_t (vi_f (vi_f (vi_f (vi_f q c1) c2) c3).2 c4) (Decidable.not_not.mp c5)) (Decidable.not_not.mp c6))
        · refine am_s_bipush am_cb8 dc223_0.1.2.1 ?_
          refine am_s_goto rfl dc223_0.1.2.2 ?_
          refine am_s_ireturn dc223_2.2.2.2 rfl (am_bkI ?_)
          refine am_s_ic_ne dc229_7.2.2.1 rfl (fun c5 => ?_) (fun c5 => ?_)
          · refine am_s_aload_n rfl dc229_8.2.1.1 ?_
            refine am_s_virtual true dc229_8.2.1.2 rfl (by decide) rfl rfl rfl (am_mth_of rfl rfl ?_)
            refine am_s_aload_n rfl dc193_0.1.1.1 ?_
            refine am_x_getI (x := I 163 5) dc193_0.1.1.2 rfl rfl (Or.inl rfl) rfl ?_
            refine am_s_iconst am_ccm1 dc193_0.1.2.1 ?_
            refine am_s_ic_ne dc193_0.1.2.2 rfl (fun c6 => ?_) (fun c6 => ?_)
            · refine am_s_iconst am_cc0 dc193_0.2.2.1 ?_
              refine am_s_zreturn dc193_0.2.2.2 rfl (by decide) (am_bkI ?_)
              refine am_s_if_ne dc229_8.2.2.1 rfl (fun z => absurd z (by decide)) (fun _ => ?_)
              refine am_s_goto rfl dc229_8.2.2.2 ?_
              exact (vi_f (vi_f (vi_t (vi_f (vi_f (vi_f q c1) c2) c3).2 (Decidable.not_not.mp c4)) c5) c6)
            · refine am_s_iconst am_cc1 dc193_0.2.1.1 ?_
              refine am_s_goto rfl dc193_0.2.1.2 ?_
              refine am_s_zreturn dc193_0.2.2.2 rfl (by decide) (am_bkI ?_)
              refine am_s_if_ne dc229_8.2.2.1 rfl (fun _ => ?_) (fun z => absurd z (by decide))
              refine am_s_aload_n rfl dc229_9.1.1.1 ?_
              exact am_s_virtual true dc229_9.1.1.2 rfl (by decide) rfl rfl rfl ((vi_t (vi_f (vi_t (vi_f (vi_f (vi_f q c1) c2) c3).2 (Decidable.not_not.mp c4)) c5) (Decidable.not_not.mp c6)))
          · exact (vi_t (vi_t (vi_f (vi_f (vi_f q c1) c2) c3).2 (Decidable.not_not.mp c4)) (Decidable.not_not.mp c5))
  · refine am_s_aload_n rfl dc229_5.2.1.1 ?_
    refine am_s_iconst am_cc1 dc229_5.2.1.2 ?_
    refine am_s_aload_n rfl dc229_5.2.2.1 ?_
    refine am_x_getI (x := I 163 4) dc229_5.2.2.2 rfl rfl (Or.inl rfl) rfl ?_
    refine am_s_virtual true dc229_6.1.1.1 rfl (by decide) rfl rfl rfl (am_mth_of rfl rfl ?_)
    refine am_s_aload_n rfl dc194_0.1.1.1 ?_
    refine am_x_getI (x := I 163 5) dc194_0.1.1.2 rfl rfl (Or.inl rfl) rfl ?_
    refine am_s_iconst am_ccm1 dc194_0.1.2.1 ?_
    refine am_s_ic_eq dc194_0.1.2.2 rfl (fun c2 => ?_) (fun c2 => ?_)
    · refine am_s_aload_n rfl dc194_0.2.1.2 ?_
      refine am_s_iload_n rfl dc194_0.2.2.1 ?_
      refine am_s_putI dc194_0.2.2.2 rfl rfl rfl rfl ?_
      refine am_s_aload_n rfl dc194_1.1.1 ?_
      refine am_s_iload_n rfl dc194_1.1.2 ?_
      refine am_s_putI dc194_1.2.1 rfl rfl rfl rfl ?_
      refine am_s_return dc194_1.2.2 rfl (am_bkV ?_)
      refine am_s_goto rfl dc229_6.1.1.2 ?_
      refine am_s_aload_n rfl dc229_8.2.1.1 ?_
      refine am_s_virtual true dc229_8.2.1.2 rfl (by decide) rfl rfl rfl (am_mth_of rfl rfl ?_)
      refine am_s_aload_n rfl dc193_0.1.1.1 ?_
      refine am_x_getI (x := I 163 4) dc193_0.1.1.2 rfl rfl (Or.inl rfl) rfl ?_
      refine am_s_iconst am_ccm1 dc193_0.1.2.1 ?_
      refine am_s_ic_ne dc193_0.1.2.2 rfl (fun c3 => ?_) (fun c3 => ?_)
      · refine am_s_iconst am_cc0 dc193_0.2.2.1 ?_
        refine am_s_zreturn dc193_0.2.2.2 rfl (by decide) (am_bkI ?_)
        refine am_s_if_ne dc229_8.2.2.1 rfl (fun z => absurd z (by decide)) (fun _ => ?_)
        refine am_s_goto rfl dc229_8.2.2.2 ?_
        exact (vi_f (vi_t (vi_t q (Decidable.not_not.mp c1)) c2) c3)
      · refine am_s_iconst am_cc1 dc193_0.2.1.1 ?_
        refine am_s_goto rfl dc193_0.2.1.2 ?_
        refine am_s_zreturn dc193_0.2.2.2 rfl (by decide) (am_bkI ?_)
        refine am_s_if_ne dc229_8.2.2.1 rfl (fun _ => ?_) (fun z => absurd z (by decide))
        refine am_s_aload_n rfl dc229_9.1.1.1 ?_
        exact am_s_virtual true dc229_9.1.1.2 rfl (by decide) rfl rfl rfl ((vi_t (vi_t (vi_t q (Decidable.not_not.mp c1)) c2) (Decidable.not_not.mp c3)))
    · refine am_s_return dc194_0.2.1.1 rfl (am_bkV ?_)
      refine am_s_goto rfl dc229_6.1.1.2 ?_
      refine am_s_aload_n rfl dc229_8.2.1.1 ?_
      refine am_s_virtual true dc229_8.2.1.2 rfl (by decide) rfl rfl rfl (am_mth_of rfl rfl ?_)
      refine am_s_aload_n rfl dc193_0.1.1.1 ?_
      refine am_x_getI (x := I 163 5) dc193_0.1.1.2 rfl rfl (Or.inl rfl) rfl ?_
      refine am_s_iconst am_ccm1 dc193_0.1.2.1 ?_
      refine am_s_ic_ne dc193_0.1.2.2 rfl (fun _ => ?_) (fun z => absurd c2 z)
      refine am_s_iconst am_cc0 dc193_0.2.2.1 ?_
      refine am_s_zreturn dc193_0.2.2.2 rfl (by decide) (am_bkI ?_)
      refine am_s_if_ne dc229_8.2.2.1 rfl (fun z => absurd z (by decide)) (fun _ => ?_)
      refine am_s_goto rfl dc229_8.2.2.2 ?_
      exact (vi_f (vi_t q (Decidable.not_not.mp c1)) c2)
theorem v229_157 {sc : Option (Nat × (Nat → Int32))} {d k n : Nat} {P : am_O → Prop} {I : am_I} {J : am_J} {Pf : am_R} (hp : am_PF Pf) {l1 : Option Value} {x2 : Int32} {l3 : Option Value} {l4 : Option Value} {l5 : Option Value} (hl1 : am_k1 l1 = true) (q : (if (I 163 5) = (-1) then (am_go sc (d + 1) 229 (44, [some (.ref 163), l1, some (.int (x2 + 1)), l3, l4, l5], [], (am_SH, I, J, Pf), k, n) P) else (am_go sc (d + 1) 229 (44, [some (.ref 163), l1, some (.int x2), l3, l4, l5], [], (am_SH, I, J, Pf), k, n) P))) : am_go sc (d + 1) 229 (157, [some (.ref 163), l1, some (.int x2), l3, l4, l5], [], (am_SH, I, J, Pf), k, n) P := by
  refine am_s_aload_n rfl dc229_10.1.2.1 ?_
  refine am_s_virtual true dc229_10.1.2.2 rfl (by decide) rfl rfl rfl (am_mth_of rfl rfl ?_)
  refine am_s_aload_n rfl dc193_0.1.1.1 ?_
  refine am_x_getI (x := I 163 5) dc193_0.1.1.2 rfl rfl (Or.inl rfl) rfl ?_
  refine am_s_iconst am_ccm1 dc193_0.1.2.1 ?_
  refine am_s_ic_ne dc193_0.1.2.2 rfl (fun c1 => ?_) (fun c1 => ?_)
  · refine am_s_iconst am_cc0 dc193_0.2.2.1 ?_
    refine am_s_zreturn dc193_0.2.2.2 rfl (by decide) (am_bkI ?_)
    refine am_s_if_eq dc229_10.2.1.1 rfl (fun _ => ?_) (fun z => absurd z (by decide))
    refine am_s_goto rfl dc229_10.2.2.1 ?_
    exact (vi_f q c1)
  · refine am_s_iconst am_cc1 dc193_0.2.1.1 ?_
    refine am_s_goto rfl dc193_0.2.1.2 ?_
    refine am_s_zreturn dc193_0.2.2.2 rfl (by decide) (am_bkI ?_)
    refine am_s_if_eq dc229_10.2.1.1 rfl (fun z => absurd z (by decide)) (fun _ => ?_)
    refine am_s_iinc (ls' := [some (.ref 163), l1, some (.int (x2 + 1)), l3, l4, l5]) am_cc1 rfl (am_set1_k (am_kill_x (j := 1) rfl hl1) rfl) dc229_10.2.1.2 ?_
    refine am_s_goto rfl dc229_10.2.2.1 ?_
    exact (vi_t q (Decidable.not_not.mp c1))
-- laysUses ([I)V
theorem v230_0 {sc : Option (Nat × (Nat → Int32))} {d k n : Nat} {P : am_O → Prop} {I : am_I} {J : am_J} {Pf : am_R} (hp : am_PF Pf) {x1 : Nat} {Lx1 : Nat} (hx1 : am_SH[x1]? = some (.inr (0, Lx1))) {l2 : Option Value} {l3 : Option Value} {l4 : Option Value} (q : (am_go sc d 230 (2, [some (.ref 163), some (.ref x1), some (.int 0), l3, l4], [], (am_SH, I, J, Pf), k, n) P)) : am_go sc d 230 (0, [some (.ref 163), some (.ref x1), l2, l3, l4], [], (am_SH, I, J, Pf), k, n) P := by
  refine am_s_iconst am_cc0 dc230_0.1.1.1 ?_
  refine am_s_istore_n (ls' := [some (.ref 163), some (.ref x1), some (.int 0), l3, l4]) rfl rfl dc230_0.1.1.2 ?_
  exact q
theorem v230_2 {sc : Option (Nat × (Nat → Int32))} {d k n : Nat} {P : am_O → Prop} {I : am_I} {J : am_J} {Pf : am_R} (hp : am_PF Pf) {x1 : Nat} {Lx1 : Nat} (hx1 : am_SH[x1]? = some (.inr (0, Lx1))) {x2 : Int32} {l3 : Option Value} {l4 : Option Value} (q : (if 8 ≤ x2 then (am_go sc d 230 (23, [some (.ref 163), some (.ref x1), some (.int 0), l3, l4], [], (am_SH, I, J, Pf), k, n) P) else (am_in x2 8 = true) ∧ (am_go sc d 230 (2, [some (.ref 163), some (.ref x1), some (.int (x2 + 1)), l3, l4], [], (am_SH, am_u I 169 (Int32.toNatClampNeg x2) 0, J, Pf), k, n) P))) : am_go sc d 230 (2, [some (.ref 163), some (.ref x1), some (.int x2), l3, l4], [], (am_SH, I, J, Pf), k, n) P := by
  refine am_s_iload_n rfl dc230_0.1.2.1 ?_
  refine am_s_bipush am_cb8 dc230_0.1.2.2 ?_
  refine am_s_ic_ge dc230_0.2.1.1 rfl (fun c1 => ?_) (fun c1 => ?_)
  · refine am_s_iconst am_cc0 dc230_1.2.1.1 ?_
    refine am_s_istore_n (ls' := [some (.ref 163), some (.ref x1), some (.int 0), l3, l4]) rfl rfl dc230_1.2.1.2 ?_
    exact (vi_t q c1)
  · refine am_s_aload_n rfl dc230_0.2.1.2 ?_
    refine am_s_getR (r := 169) dc230_0.2.2.1 rfl rfl rfl (hp _ _ _ rfl) ?_
    refine am_s_iload_n rfl dc230_0.2.2.2 ?_
    refine am_s_iconst am_cc0 dc230_1.1.1.1 ?_
    refine am_s_iastore dc230_1.1.1.2 rfl ((vi_f q c1).1) rfl ?_
    refine am_s_iinc (ls' := [some (.ref 163), some (.ref x1), some (.int (x2 + 1)), l3, l4]) am_cc1 rfl rfl dc230_1.1.2.1 ?_
    refine am_s_goto rfl dc230_1.1.2.2 ?_
    exact (vi_f q c1).2
theorem v230_23 {sc : Option (Nat × (Nat → Int32))} {d k n : Nat} {P : am_O → Prop} {I : am_I} {J : am_J} {Pf : am_R} (hp : am_PF Pf) {x1 : Nat} {Lx1 : Nat} (hx1 : am_SH[x1]? = some (.inr (0, Lx1))) {x2 : Int32} {l3 : Option Value} {l4 : Option Value} (q : (am_in 1 Lx1 = true) ∧ (if (I x1 (Int32.toNatClampNeg 1)) ≤ x2 then (am_go sc d 230 (105, [some (.ref 163), some (.ref x1), some (.int 0), l3, l4], [], (am_SH, I, J, Pf), k, n) P) else (am_go sc d 230 (32, [some (.ref 163), some (.ref x1), some (.int x2), some (.int 0), l4], [], (am_SH, I, J, Pf), k, n) P))) : am_go sc d 230 (23, [some (.ref 163), some (.ref x1), some (.int x2), l3, l4], [], (am_SH, I, J, Pf), k, n) P := by
  refine am_s_iload_n rfl dc230_1.2.2.1 ?_
  refine am_s_aload_n rfl dc230_1.2.2.2 ?_
  refine am_s_iconst am_cc1 dc230_2.1.1.1 ?_
  refine am_x_iaload (x := I x1 (Int32.toNatClampNeg 1)) dc230_2.1.1.2 hx1 (q.1) rfl rfl ?_
  refine am_s_ic_ge dc230_2.1.2.1 rfl (fun c1 => ?_) (fun c1 => ?_)
  · refine am_s_iconst am_cc0 dc230_8.2.2.2 ?_
    refine am_s_istore_n (ls' := [some (.ref 163), some (.ref x1), some (.int 0), l3, l4]) rfl rfl dc230_9.1.1.1 ?_
    exact (vi_t q.2 c1)
  · refine am_s_iconst am_cc0 dc230_2.1.2.2 ?_
    refine am_s_istore_n (ls' := [some (.ref 163), some (.ref x1), some (.int x2), some (.int 0), l4]) rfl rfl dc230_2.2.1.1 ?_
    exact (vi_f q.2 c1)
theorem v230_32 {sc : Option (Nat × (Nat → Int32))} {d k n : Nat} {P : am_O → Prop} {I : am_I} {J : am_J} {Pf : am_R} (hp : am_PF Pf) {x1 : Nat} {Lx1 : Nat} (hx1 : am_SH[x1]? = some (.inr (0, Lx1))) {x2 : Int32} {x3 : Int32} {l4 : Option Value} (q : (am_in ((32 + (3 * x2)) + 2) Lx1 = true) ∧ (if (I x1 (Int32.toNatClampNeg ((32 + (3 * x2)) + 2))) ≤ x3 then (am_go sc d 230 (23, [some (.ref 163), some (.ref x1), some (.int (x2 + 1)), some (.int x3), l4], [], (am_SH, I, J, Pf), k, n) P) else (am_in (92 + (((4 * x2) + x3) * 11)) Lx1 = true) ∧ (if (I x1 (Int32.toNatClampNeg (92 + (((4 * x2) + x3) * 11)))) = 1 then (am_in (32 + (3 * x2)) Lx1 = true) ∧ (am_in (I x1 (Int32.toNatClampNeg (32 + (3 * x2)))) 8 = true) ∧ (am_in ((92 + (((4 * x2) + x3) * 11)) + 1) Lx1 = true) ∧ (am_in (I x1 (Int32.toNatClampNeg (32 + (3 * x2)))) 8 = true) ∧ (am_go sc d 230 (32, [some (.ref 163), some (.ref x1), some (.int x2), some (.int (x3 + 1)), some (.int (92 + (((4 * x2) + x3) * 11)))], [], (am_SH, am_u I 169 (Int32.toNatClampNeg (I x1 (Int32.toNatClampNeg (32 + (3 * x2))))) ((I 169 (Int32.toNatClampNeg (I x1 (Int32.toNatClampNeg (32 + (3 * x2)))))) ||| ((1 : Int32) <<< ((I x1 (Int32.toNatClampNeg ((92 + (((4 * x2) + x3) * 11)) + 1))) &&& 31))), J, Pf), k, n) P) else (am_go sc d 230 (32, [some (.ref 163), some (.ref x1), some (.int x2), some (.int (x3 + 1)), some (.int (92 + (((4 * x2) + x3) * 11)))], [], (am_SH, I, J, Pf), k, n) P)))) : am_go sc d 230 (32, [some (.ref 163), some (.ref x1), some (.int x2), some (.int x3), l4], [], (am_SH, I, J, Pf), k, n) P := by
  refine am_s_iload_n rfl dc230_2.2.1.2 ?_
  refine am_s_aload_n rfl dc230_2.2.2.1 ?_
  refine am_s_bipush am_cb32 dc230_2.2.2.2 ?_
  refine am_s_iconst am_cc3 dc230_3.1.1.1 ?_
  refine am_s_iload_n rfl dc230_3.1.1.2 ?_
  refine am_s_imul dc230_3.1.2.1 ?_
  refine am_s_iadd dc230_3.1.2.2 ?_
  refine am_s_iconst am_cc2 dc230_3.2.1.1 ?_
  refine am_s_iadd dc230_3.2.1.2 ?_
  refine am_x_iaload (x := I x1 (Int32.toNatClampNeg ((32 + (3 * x2)) + 2))) dc230_3.2.2.1 hx1 (q.1) rfl rfl ?_
  refine am_s_ic_ge dc230_3.2.2.2 rfl (fun c1 => ?_) (fun c1 => ?_)
  · refine am_s_iinc (ls' := [some (.ref 163), some (.ref x1), some (.int (x2 + 1)), some (.int x3), l4]) am_cc1 rfl rfl dc230_8.2.1.2 ?_
    refine am_s_goto rfl dc230_8.2.2.1 ?_
    exact (vi_t q.2 c1)
  · refine am_s_bipush am_cb92 dc230_4.1.1.1 ?_
    refine am_s_iconst am_cc4 dc230_4.1.1.2 ?_
    refine am_s_iload_n rfl dc230_4.1.2.1 ?_
    refine am_s_imul dc230_4.1.2.2 ?_
    refine am_s_iload_n rfl dc230_4.2.1.1 ?_
    refine am_s_iadd dc230_4.2.1.2 ?_
    refine am_s_bipush am_cb11 dc230_4.2.2.1 ?_
    refine am_s_imul dc230_4.2.2.2 ?_
    refine am_s_iadd dc230_5.1.1.1 ?_
    refine am_s_istore (ls' := [some (.ref 163), some (.ref x1), some (.int x2), some (.int x3), some (.int (92 + (((4 * x2) + x3) * 11)))]) rfl rfl dc230_5.1.1.2 ?_
    refine am_s_aload_n rfl dc230_5.1.2.1 ?_
    refine am_s_iload rfl dc230_5.1.2.2 ?_
    refine am_x_iaload (x := I x1 (Int32.toNatClampNeg (92 + (((4 * x2) + x3) * 11)))) dc230_5.2.1.1 hx1 ((vi_f q.2 c1).1) rfl rfl ?_
    refine am_s_iconst am_cc1 dc230_5.2.1.2 ?_
    refine am_s_ic_ne dc230_5.2.2.1 rfl (fun c2 => ?_) (fun c2 => ?_)
    · refine am_s_iinc (ls' := [some (.ref 163), some (.ref x1), some (.int x2), some (.int (x3 + 1)), some (.int (92 + (((4 * x2) + x3) * 11)))]) am_cc1 rfl rfl dc230_8.1.2.2 ?_
      refine am_s_goto rfl dc230_8.2.1.1 ?_
      exact (vi_f (vi_f q.2 c1).2 c2)
    · refine am_s_aload_n rfl dc230_5.2.2.2 ?_
      refine am_s_getR (r := 169) dc230_6.1.1.1 rfl rfl rfl (hp _ _ _ rfl) ?_
      refine am_s_aload_n rfl dc230_6.1.1.2 ?_
      refine am_s_bipush am_cb32 dc230_6.1.2.1 ?_
      refine am_s_iconst am_cc3 dc230_6.1.2.2 ?_
      refine am_s_iload_n rfl dc230_6.2.1.1 ?_
      refine am_s_imul dc230_6.2.1.2 ?_
      refine am_s_iadd dc230_6.2.2.1 ?_
      refine am_x_iaload (x := I x1 (Int32.toNatClampNeg (32 + (3 * x2)))) dc230_6.2.2.2 hx1 ((vi_t (vi_f q.2 c1).2 (Decidable.not_not.mp c2)).1) rfl rfl ?_
      refine am_s_dup2 rfl rfl dc230_7.1.1.1 ?_
      refine am_x_iaload (x := I 169 (Int32.toNatClampNeg (I x1 (Int32.toNatClampNeg (32 + (3 * x2)))))) dc230_7.1.1.2 rfl ((vi_t (vi_f q.2 c1).2 (Decidable.not_not.mp c2)).2.1) rfl rfl ?_
      refine am_s_iconst am_cc1 dc230_7.1.2.1 ?_
      refine am_s_aload_n rfl dc230_7.1.2.2 ?_
      refine am_s_iload rfl dc230_7.2.1.1 ?_
      refine am_s_iconst am_cc1 dc230_7.2.1.2 ?_
      refine am_s_iadd dc230_7.2.2.1 ?_
      refine am_x_iaload (x := I x1 (Int32.toNatClampNeg ((92 + (((4 * x2) + x3) * 11)) + 1))) dc230_7.2.2.2 hx1 ((vi_t (vi_f q.2 c1).2 (Decidable.not_not.mp c2)).2.2.1) rfl rfl ?_
      refine am_s_ishl dc230_8.1.1.1 ?_
      refine am_s_ior dc230_8.1.1.2 ?_
      refine am_s_iastore dc230_8.1.2.1 rfl ((vi_t (vi_f q.2 c1).2 (Decidable.not_not.mp c2)).2.2.2.1) rfl ?_
      refine am_s_iinc (ls' := [some (.ref 163), some (.ref x1), some (.int x2), some (.int (x3 + 1)), some (.int (92 + (((4 * x2) + x3) * 11)))]) am_cc1 rfl rfl dc230_8.1.2.2 ?_
      refine am_s_goto rfl dc230_8.2.1.1 ?_
      exact (vi_t (vi_f q.2 c1).2 (Decidable.not_not.mp c2)).2.2.2.2
theorem v230_105 {sc : Option (Nat × (Nat → Int32))} {d k n : Nat} {P : am_O → Prop} {I : am_I} {J : am_J} {Pf : am_R} (hp : am_PF Pf) {x1 : Nat} {Lx1 : Nat} (hx1 : am_SH[x1]? = some (.inr (0, Lx1))) {x2 : Int32} {l3 : Option Value} {l4 : Option Value} (q : (am_in 2 Lx1 = true) ∧ (if (I x1 (Int32.toNatClampNeg 2)) ≤ x2 then (P (.inl none, (am_SH, I, J, Pf), k, n)) else (am_in (972 + (5 * x2)) Lx1 = true) ∧ (am_in (I x1 (Int32.toNatClampNeg (972 + (5 * x2)))) 8 = true) ∧ (am_in ((972 + (5 * x2)) + 1) Lx1 = true) ∧ (am_in (I x1 (Int32.toNatClampNeg (972 + (5 * x2)))) 8 = true) ∧ (am_go sc d 230 (105, [some (.ref 163), some (.ref x1), some (.int (x2 + 1)), l3, l4], [], (am_SH, am_u I 169 (Int32.toNatClampNeg (I x1 (Int32.toNatClampNeg (972 + (5 * x2))))) ((I 169 (Int32.toNatClampNeg (I x1 (Int32.toNatClampNeg (972 + (5 * x2)))))) ||| ((1 : Int32) <<< ((I x1 (Int32.toNatClampNeg ((972 + (5 * x2)) + 1))) &&& 31))), J, Pf), k, n) P))) : am_go sc d 230 (105, [some (.ref 163), some (.ref x1), some (.int x2), l3, l4], [], (am_SH, I, J, Pf), k, n) P := by
  refine am_s_iload_n rfl dc230_9.1.1.2 ?_
  refine am_s_aload_n rfl dc230_9.1.2.1 ?_
  refine am_s_iconst am_cc2 dc230_9.1.2.2 ?_
  refine am_x_iaload (x := I x1 (Int32.toNatClampNeg 2)) dc230_9.2.1.1 hx1 (q.1) rfl rfl ?_
  refine am_s_ic_ge dc230_9.2.1.2 rfl (fun c1 => ?_) (fun c1 => ?_)
  · exact am_s_return dc230_13 rfl ((vi_t q.2 c1))
  · refine am_s_aload_n rfl dc230_9.2.2.1 ?_
    refine am_s_getR (r := 169) dc230_9.2.2.2 rfl rfl rfl (hp _ _ _ rfl) ?_
    refine am_s_aload_n rfl dc230_10.1.1.1 ?_
    refine am_s_sipush am_cs972 dc230_10.1.1.2 ?_
    refine am_s_iconst am_cc5 dc230_10.1.2.1 ?_
    refine am_s_iload_n rfl dc230_10.1.2.2 ?_
    refine am_s_imul dc230_10.2.1.1 ?_
    refine am_s_iadd dc230_10.2.1.2 ?_
    refine am_x_iaload (x := I x1 (Int32.toNatClampNeg (972 + (5 * x2)))) dc230_10.2.2.1 hx1 ((vi_f q.2 c1).1) rfl rfl ?_
    refine am_s_dup2 rfl rfl dc230_10.2.2.2 ?_
    refine am_x_iaload (x := I 169 (Int32.toNatClampNeg (I x1 (Int32.toNatClampNeg (972 + (5 * x2)))))) dc230_11.1.1.1 rfl ((vi_f q.2 c1).2.1) rfl rfl ?_
    refine am_s_iconst am_cc1 dc230_11.1.1.2 ?_
    refine am_s_aload_n rfl dc230_11.1.2.1 ?_
    refine am_s_sipush am_cs972 dc230_11.1.2.2 ?_
    refine am_s_iconst am_cc5 dc230_11.2.1.1 ?_
    refine am_s_iload_n rfl dc230_11.2.1.2 ?_
    refine am_s_imul dc230_11.2.2.1 ?_
    refine am_s_iadd dc230_11.2.2.2 ?_
    refine am_s_iconst am_cc1 dc230_12.1.1.1 ?_
    refine am_s_iadd dc230_12.1.1.2 ?_
    refine am_x_iaload (x := I x1 (Int32.toNatClampNeg ((972 + (5 * x2)) + 1))) dc230_12.1.2.1 hx1 ((vi_f q.2 c1).2.2.1) rfl rfl ?_
    refine am_s_ishl dc230_12.1.2.2 ?_
    refine am_s_ior dc230_12.2.1.1 ?_
    refine am_s_iastore dc230_12.2.1.2 rfl ((vi_f q.2 c1).2.2.2.1) rfl ?_
    refine am_s_iinc (ls' := [some (.ref 163), some (.ref x1), some (.int (x2 + 1)), l3, l4]) am_cc1 rfl rfl dc230_12.2.2.1 ?_
    refine am_s_goto rfl dc230_12.2.2.2 ?_
    exact (vi_f q.2 c1).2.2.2.2
-- laysSorts ([I)V
theorem v231_0 {sc : Option (Nat × (Nat → Int32))} {d k n : Nat} {P : am_O → Prop} {I : am_I} {J : am_J} {Pf : am_R} (hp : am_PF Pf) {x1 : Nat} {Lx1 : Nat} (hx1 : am_SH[x1]? = some (.inr (0, Lx1))) {l2 : Option Value} {l3 : Option Value} {l4 : Option Value} {l5 : Option Value} (q : (am_mth d 230 [.ref 163, .ref x1] (am_SH, I, J, Pf) (am_af sc d 231 2 [some (.ref 163), some (.ref x1), l2, l3, l4, l5] [.ref x1, .ref 163] [] (am_SH, I, J, Pf) k n true P))) : am_go sc d 231 (0, [some (.ref 163), some (.ref x1), l2, l3, l4, l5], [], (am_SH, I, J, Pf), k, n) P := by
  refine am_s_aload_n rfl dc231_0.1.1.1 ?_
  refine am_s_aload_n rfl dc231_0.1.1.2 ?_
  exact am_s_virtual true dc231_0.1.2.1 rfl (by decide) rfl rfl rfl (q)
theorem v231_7 {sc : Option (Nat × (Nat → Int32))} {d k n : Nat} {P : am_O → Prop} {I : am_I} {J : am_J} {Pf : am_R} (hp : am_PF Pf) {x1 : Nat} {Lx1 : Nat} (hx1 : am_SH[x1]? = some (.inr (0, Lx1))) {x2 : Int32} {l3 : Option Value} {l4 : Option Value} {l5 : Option Value} (q : (if 8 ≤ x2 then (am_go sc d 231 (40, [some (.ref 163), some (.ref x1), some (.int 0), l3, l4, l5], [], (am_SH, I, J, Pf), k, n) P) else (am_in x2 8 = true) ∧ (am_in x2 8 = true) ∧ (am_in x2 8 = true) ∧ (am_go sc d 231 (7, [some (.ref 163), some (.ref x1), some (.int (x2 + 1)), l3, l4, l5], [], (am_SH, am_u (am_u I 170 (Int32.toNatClampNeg x2) (I 169 (Int32.toNatClampNeg x2))) 171 (Int32.toNatClampNeg x2) 0, J, Pf), k, n) P))) : am_go sc d 231 (7, [some (.ref 163), some (.ref x1), some (.int x2), l3, l4, l5], [], (am_SH, I, J, Pf), k, n) P := by
  refine am_s_iload_n rfl dc231_0.2.1.2 ?_
  refine am_s_bipush am_cb8 dc231_0.2.2.1 ?_
  refine am_s_ic_ge dc231_0.2.2.2 rfl (fun c1 => ?_) (fun c1 => ?_)
  · refine am_s_iconst am_cc0 dc231_2.2.2.2 ?_
    refine am_s_istore_n (ls' := [some (.ref 163), some (.ref x1), some (.int 0), l3, l4, l5]) rfl rfl dc231_3.1.1.1 ?_
    exact (vi_t q c1)
  · refine am_s_aload_n rfl dc231_1.1.1.1 ?_
    refine am_s_getR (r := 170) dc231_1.1.1.2 rfl rfl rfl (hp _ _ _ rfl) ?_
    refine am_s_iload_n rfl dc231_1.1.2.1 ?_
    refine am_s_aload_n rfl dc231_1.1.2.2 ?_
    refine am_s_getR (r := 169) dc231_1.2.1.1 rfl rfl rfl (hp _ _ _ rfl) ?_
    refine am_s_iload_n rfl dc231_1.2.1.2 ?_
    refine am_x_iaload (x := I 169 (Int32.toNatClampNeg x2)) dc231_1.2.2.1 rfl ((vi_f q c1).1) rfl rfl ?_
    refine am_s_iastore dc231_1.2.2.2 rfl ((vi_f q c1).2.1) rfl ?_
    refine am_s_aload_n rfl dc231_2.1.1.1 ?_
    refine am_s_getR (r := 171) dc231_2.1.1.2 rfl rfl rfl (hp _ _ _ rfl) ?_
    refine am_s_iload_n rfl dc231_2.1.2.1 ?_
    refine am_s_iconst am_cc0 dc231_2.1.2.2 ?_
    refine am_s_iastore dc231_2.2.1.1 rfl ((vi_f q c1).2.2.1) rfl ?_
    refine am_s_iinc (ls' := [some (.ref 163), some (.ref x1), some (.int (x2 + 1)), l3, l4, l5]) am_cc1 rfl rfl dc231_2.2.1.2 ?_
    refine am_s_goto rfl dc231_2.2.2.1 ?_
    exact (vi_f q c1).2.2.2
theorem v231_40 {sc : Option (Nat × (Nat → Int32))} {d k n : Nat} {P : am_O → Prop} {I : am_I} {J : am_J} {Pf : am_R} (hp : am_PF Pf) {x1 : Nat} {Lx1 : Nat} (hx1 : am_SH[x1]? = some (.inr (0, Lx1))) {x2 : Int32} {l3 : Option Value} {l4 : Option Value} {l5 : Option Value} (q : (am_in 4 Lx1 = true) ∧ (if (I x1 (Int32.toNatClampNeg 4)) ≤ x2 then (am_go sc d 231 (85, [some (.ref 163), some (.ref x1), some (.int 0), l3, l4, l5], [], (am_SH, I, J, Pf), k, n) P) else (am_in (1008 + (4 * x2)) Lx1 = true) ∧ (am_in (I x1 (Int32.toNatClampNeg (1008 + (4 * x2)))) 8 = true) ∧ (am_in ((1008 + (4 * x2)) + 1) Lx1 = true) ∧ (am_in (I x1 (Int32.toNatClampNeg (1008 + (4 * x2)))) 8 = true) ∧ (am_go sc d 231 (40, [some (.ref 163), some (.ref x1), some (.int (x2 + 1)), l3, l4, l5], [], (am_SH, am_u I 170 (Int32.toNatClampNeg (I x1 (Int32.toNatClampNeg (1008 + (4 * x2))))) ((I 170 (Int32.toNatClampNeg (I x1 (Int32.toNatClampNeg (1008 + (4 * x2)))))) ||| ((1 : Int32) <<< ((I x1 (Int32.toNatClampNeg ((1008 + (4 * x2)) + 1))) &&& 31))), J, Pf), k, n) P))) : am_go sc d 231 (40, [some (.ref 163), some (.ref x1), some (.int x2), l3, l4, l5], [], (am_SH, I, J, Pf), k, n) P := by
  refine am_s_iload_n rfl dc231_3.1.1.2 ?_
  refine am_s_aload_n rfl dc231_3.1.2.1 ?_
  refine am_s_iconst am_cc4 dc231_3.1.2.2 ?_
  refine am_x_iaload (x := I x1 (Int32.toNatClampNeg 4)) dc231_3.2.1.1 hx1 (q.1) rfl rfl ?_
  refine am_s_ic_ge dc231_3.2.1.2 rfl (fun c1 => ?_) (fun c1 => ?_)
  · refine am_s_iconst am_cc0 dc231_7.1.1.1 ?_
    refine am_s_istore_n (ls' := [some (.ref 163), some (.ref x1), some (.int 0), l3, l4, l5]) rfl rfl dc231_7.1.1.2 ?_
    exact (vi_t q.2 c1)
  · refine am_s_aload_n rfl dc231_3.2.2.1 ?_
    refine am_s_getR (r := 170) dc231_3.2.2.2 rfl rfl rfl (hp _ _ _ rfl) ?_
    refine am_s_aload_n rfl dc231_4.1.1.1 ?_
    refine am_s_sipush am_cs1008 dc231_4.1.1.2 ?_
    refine am_s_iconst am_cc4 dc231_4.1.2.1 ?_
    refine am_s_iload_n rfl dc231_4.1.2.2 ?_
    refine am_s_imul dc231_4.2.1.1 ?_
    refine am_s_iadd dc231_4.2.1.2 ?_
    refine am_x_iaload (x := I x1 (Int32.toNatClampNeg (1008 + (4 * x2)))) dc231_4.2.2.1 hx1 ((vi_f q.2 c1).1) rfl rfl ?_
    refine am_s_dup2 rfl rfl dc231_4.2.2.2 ?_
    refine am_x_iaload (x := I 170 (Int32.toNatClampNeg (I x1 (Int32.toNatClampNeg (1008 + (4 * x2)))))) dc231_5.1.1.1 rfl ((vi_f q.2 c1).2.1) rfl rfl ?_
    refine am_s_iconst am_cc1 dc231_5.1.1.2 ?_
    refine am_s_aload_n rfl dc231_5.1.2.1 ?_
    refine am_s_sipush am_cs1008 dc231_5.1.2.2 ?_
    refine am_s_iconst am_cc4 dc231_5.2.1.1 ?_
    refine am_s_iload_n rfl dc231_5.2.1.2 ?_
    refine am_s_imul dc231_5.2.2.1 ?_
    refine am_s_iadd dc231_5.2.2.2 ?_
    refine am_s_iconst am_cc1 dc231_6.1.1.1 ?_
    refine am_s_iadd dc231_6.1.1.2 ?_
    refine am_x_iaload (x := I x1 (Int32.toNatClampNeg ((1008 + (4 * x2)) + 1))) dc231_6.1.2.1 hx1 ((vi_f q.2 c1).2.2.1) rfl rfl ?_
    refine am_s_ishl dc231_6.1.2.2 ?_
    refine am_s_ior dc231_6.2.1.1 ?_
    refine am_s_iastore dc231_6.2.1.2 rfl ((vi_f q.2 c1).2.2.2.1) rfl ?_
    refine am_s_iinc (ls' := [some (.ref 163), some (.ref x1), some (.int (x2 + 1)), l3, l4, l5]) am_cc1 rfl rfl dc231_6.2.2.1 ?_
    refine am_s_goto rfl dc231_6.2.2.2 ?_
    exact (vi_f q.2 c1).2.2.2.2
theorem v231_85 {sc : Option (Nat × (Nat → Int32))} {d k n : Nat} {P : am_O → Prop} {I : am_I} {J : am_J} {Pf : am_R} (hp : am_PF Pf) {x1 : Nat} {Lx1 : Nat} (hx1 : am_SH[x1]? = some (.inr (0, Lx1))) {x2 : Int32} {l3 : Option Value} {l4 : Option Value} {l5 : Option Value} (q : (if 8 ≤ x2 then (am_go sc d 231 (164, [some (.ref 163), some (.ref x1), some (.int 0), l3, l4, l5], [], (am_SH, I, J, Pf), k, n) P) else (am_go sc d 231 (93, [some (.ref 163), some (.ref x1), some (.int x2), some (.int 0), l4, l5], [], (am_SH, I, J, Pf), k, n) P))) : am_go sc d 231 (85, [some (.ref 163), some (.ref x1), some (.int x2), l3, l4, l5], [], (am_SH, I, J, Pf), k, n) P := by
  refine am_s_iload_n rfl dc231_7.1.2.1 ?_
  refine am_s_bipush am_cb8 dc231_7.1.2.2 ?_
  refine am_s_ic_ge dc231_7.2.1.1 rfl (fun c1 => ?_) (fun c1 => ?_)
  · refine am_s_iconst am_cc0 dc231_12.2.1.1 ?_
    refine am_s_istore_n (ls' := [some (.ref 163), some (.ref x1), some (.int 0), l3, l4, l5]) rfl rfl dc231_12.2.1.2 ?_
    exact (vi_t q c1)
  · refine am_s_iconst am_cc0 dc231_7.2.1.2 ?_
    refine am_s_istore_n (ls' := [some (.ref 163), some (.ref x1), some (.int x2), some (.int 0), l4, l5]) rfl rfl dc231_7.2.2.1 ?_
    exact (vi_f q c1)
theorem v231_93 {sc : Option (Nat × (Nat → Int32))} {d k n : Nat} {P : am_O → Prop} {I : am_I} {J : am_J} {Pf : am_R} (hp : am_PF Pf) {x1 : Nat} {Lx1 : Nat} (hx1 : am_SH[x1]? = some (.inr (0, Lx1))) {x2 : Int32} {x3 : Int32} {l4 : Option Value} {l5 : Option Value} (q : (if 8 ≤ x3 then (am_go sc d 231 (85, [some (.ref 163), some (.ref x1), some (.int (x2 + 1)), some (.int x3), l4, l5], [], (am_SH, I, J, Pf), k, n) P) else (am_go sc d 231 (102, [some (.ref 163), some (.ref x1), some (.int x2), some (.int x3), some (.int 0), l5], [], (am_SH, I, J, Pf), k, n) P))) : am_go sc d 231 (93, [some (.ref 163), some (.ref x1), some (.int x2), some (.int x3), l4, l5], [], (am_SH, I, J, Pf), k, n) P := by
  refine am_s_iload_n rfl dc231_7.2.2.2 ?_
  refine am_s_bipush am_cb8 dc231_8.1.1.1 ?_
  refine am_s_ic_ge dc231_8.1.1.2 rfl (fun c1 => ?_) (fun c1 => ?_)
  · refine am_s_iinc (ls' := [some (.ref 163), some (.ref x1), some (.int (x2 + 1)), some (.int x3), l4, l5]) am_cc1 rfl rfl dc231_12.1.2.1 ?_
    refine am_s_goto rfl dc231_12.1.2.2 ?_
    exact (vi_t q c1)
  · refine am_s_iconst am_cc0 dc231_8.1.2.1 ?_
    refine am_s_istore (ls' := [some (.ref 163), some (.ref x1), some (.int x2), some (.int x3), some (.int 0), l5]) rfl rfl dc231_8.1.2.2 ?_
    exact (vi_f q c1)
theorem v231_102 {sc : Option (Nat × (Nat → Int32))} {d k n : Nat} {P : am_O → Prop} {I : am_I} {J : am_J} {Pf : am_R} (hp : am_PF Pf) {x1 : Nat} {Lx1 : Nat} (hx1 : am_SH[x1]? = some (.inr (0, Lx1))) {x2 : Int32} {x3 : Int32} {x4 : Int32} {l5 : Option Value} (q : (if 8 ≤ x4 then (am_go sc d 231 (93, [some (.ref 163), some (.ref x1), some (.int x2), some (.int (x3 + 1)), some (.int x4), l5], [], (am_SH, I, J, Pf), k, n) P) else (am_in x3 8 = true) ∧ (am_in x3 8 = true) ∧ (if (((I 170 (Int32.toNatClampNeg x3)) >>> (x4 &&& 31)) &&& 1) = 1 then (am_in x4 8 = true) ∧ (am_in x3 8 = true) ∧ (am_go sc d 231 (102, [some (.ref 163), some (.ref x1), some (.int x2), some (.int x3), some (.int (x4 + 1)), l5], [], (am_SH, am_u I 170 (Int32.toNatClampNeg x3) ((I 170 (Int32.toNatClampNeg x3)) ||| (I 170 (Int32.toNatClampNeg x4))), J, Pf), k, n) P) else (am_in x3 8 = true) ∧ (am_go sc d 231 (102, [some (.ref 163), some (.ref x1), some (.int x2), some (.int x3), some (.int (x4 + 1)), l5], [], (am_SH, am_u I 170 (Int32.toNatClampNeg x3) ((I 170 (Int32.toNatClampNeg x3)) ||| 0), J, Pf), k, n) P)))) : am_go sc d 231 (102, [some (.ref 163), some (.ref x1), some (.int x2), some (.int x3), some (.int x4), l5], [], (am_SH, I, J, Pf), k, n) P := by
  refine am_s_iload rfl dc231_8.2.1.1 ?_
  refine am_s_bipush am_cb8 dc231_8.2.1.2 ?_
  refine am_s_ic_ge dc231_8.2.2.1 rfl (fun c1 => ?_) (fun c1 => ?_)
  · refine am_s_iinc (ls' := [some (.ref 163), some (.ref x1), some (.int x2), some (.int (x3 + 1)), some (.int x4), l5]) am_cc1 rfl rfl dc231_12.1.1.1 ?_
    refine am_s_goto rfl dc231_12.1.1.2 ?_
    exact (vi_t q c1)
  · refine am_s_aload_n rfl dc231_8.2.2.2 ?_
    refine am_s_getR (r := 170) dc231_9.1.1.1 rfl rfl rfl (hp _ _ _ rfl) ?_
    refine am_s_iload_n rfl dc231_9.1.1.2 ?_
    refine am_s_dup2 rfl rfl dc231_9.1.2.1 ?_
    refine am_x_iaload (x := I 170 (Int32.toNatClampNeg x3)) dc231_9.1.2.2 rfl ((vi_f q c1).1) rfl rfl ?_
    refine am_s_aload_n rfl dc231_9.2.1.1 ?_
    refine am_s_getR (r := 170) dc231_9.2.1.2 rfl rfl rfl (hp _ _ _ rfl) ?_
    refine am_s_iload_n rfl dc231_9.2.2.1 ?_
    refine am_x_iaload (x := I 170 (Int32.toNatClampNeg x3)) dc231_9.2.2.2 rfl ((vi_f q c1).2.1) rfl rfl ?_
    refine am_s_iload rfl dc231_10.1.1.1 ?_
    refine am_s_ishr dc231_10.1.1.2 ?_
    refine am_s_iconst am_cc1 dc231_10.1.2.1 ?_
    refine am_s_iand dc231_10.1.2.2 ?_
    refine am_s_iconst am_cc1 dc231_10.2.1.1 ?_
    refine am_s_ic_ne dc231_10.2.1.2 rfl (fun c2 => ?_) (fun c2 => ?_)
    · refine am_s_iconst am_cc0 dc231_11.1.2.2 ?_
      refine am_s_ior dc231_11.2.1.1 ?_
      refine am_s_iastore dc231_11.2.1.2 rfl ((vi_f (vi_f q c1).2.2 c2).1) rfl ?_
      refine am_s_iinc (ls' := [some (.ref 163), some (.ref x1), some (.int x2), some (.int x3), some (.int (x4 + 1)), l5]) am_cc1 rfl rfl dc231_11.2.2.1 ?_
      refine am_s_goto rfl dc231_11.2.2.2 ?_
      exact (vi_f (vi_f q c1).2.2 c2).2
    · refine am_s_aload_n rfl dc231_10.2.2.1 ?_
      refine am_s_getR (r := 170) dc231_10.2.2.2 rfl rfl rfl (hp _ _ _ rfl) ?_
      refine am_s_iload rfl dc231_11.1.1.1 ?_
      refine am_x_iaload (x := I 170 (Int32.toNatClampNeg x4)) dc231_11.1.1.2 rfl ((vi_t (vi_f q c1).2.2 (Decidable.not_not.mp c2)).1) rfl rfl ?_
      refine am_s_goto rfl dc231_11.1.2.1 ?_
      refine am_s_ior dc231_11.2.1.1 ?_
      refine am_s_iastore dc231_11.2.1.2 rfl ((vi_t (vi_f q c1).2.2 (Decidable.not_not.mp c2)).2.1) rfl ?_
      refine am_s_iinc (ls' := [some (.ref 163), some (.ref x1), some (.int x2), some (.int x3), some (.int (x4 + 1)), l5]) am_cc1 rfl rfl dc231_11.2.2.1 ?_
      refine am_s_goto rfl dc231_11.2.2.2 ?_
      exact (vi_t (vi_f q c1).2.2 (Decidable.not_not.mp c2)).2.2
theorem v231_164 {sc : Option (Nat × (Nat → Int32))} {d k n : Nat} {P : am_O → Prop} {I : am_I} {J : am_J} {Pf : am_R} (hp : am_PF Pf) {x1 : Nat} {Lx1 : Nat} (hx1 : am_SH[x1]? = some (.inr (0, Lx1))) {x2 : Int32} {l3 : Option Value} {l4 : Option Value} {l5 : Option Value} (q : (if 64 ≤ x2 then (P (.inl none, (am_SH, I, J, Pf), k, n)) else (am_go sc d 231 (172, [some (.ref 163), some (.ref x1), some (.int x2), some (.int 0), l4, l5], [], (am_SH, I, J, Pf), k, n) P))) : am_go sc d 231 (164, [some (.ref 163), some (.ref x1), some (.int x2), l3, l4, l5], [], (am_SH, I, J, Pf), k, n) P := by
  refine am_s_iload_n rfl dc231_12.2.2.1 ?_
  refine am_s_bipush am_cb64 dc231_12.2.2.2 ?_
  refine am_s_ic_ge dc231_13.1.1.1 rfl (fun c1 => ?_) (fun c1 => ?_)
  · exact am_s_return dc231_24.2.2 rfl ((vi_t q c1))
  · refine am_s_iconst am_cc0 dc231_13.1.1.2 ?_
    refine am_s_istore_n (ls' := [some (.ref 163), some (.ref x1), some (.int x2), some (.int 0), l4, l5]) rfl rfl dc231_13.1.2.1 ?_
    exact (vi_f q c1)
theorem v231_172 {sc : Option (Nat × (Nat → Int32))} {d k n : Nat} {P : am_O → Prop} {I : am_I} {J : am_J} {Pf : am_R} (hp : am_PF Pf) {x1 : Nat} {Lx1 : Nat} (hx1 : am_SH[x1]? = some (.inr (0, Lx1))) {x2 : Int32} {x3 : Int32} {l4 : Option Value} {l5 : Option Value} (q : (if 8 ≤ x3 then (am_go sc d 231 (246, [some (.ref 163), some (.ref x1), some (.int x2), some (.int 0), l4, l5], [], (am_SH, I, J, Pf), k, n) P) else (am_go sc d 231 (181, [some (.ref 163), some (.ref x1), some (.int x2), some (.int x3), some (.int 0), l5], [], (am_SH, I, J, Pf), k, n) P))) : am_go sc d 231 (172, [some (.ref 163), some (.ref x1), some (.int x2), some (.int x3), l4, l5], [], (am_SH, I, J, Pf), k, n) P := by
  refine am_s_iload_n rfl dc231_13.1.2.2 ?_
  refine am_s_bipush am_cb8 dc231_13.2.1.1 ?_
  refine am_s_ic_ge dc231_13.2.1.2 rfl (fun c1 => ?_) (fun c1 => ?_)
  · refine am_s_iconst am_cc0 dc231_18.1.2.1 ?_
    refine am_s_istore_n (ls' := [some (.ref 163), some (.ref x1), some (.int x2), some (.int 0), l4, l5]) rfl rfl dc231_18.1.2.2 ?_
    exact (vi_t q c1)
  · refine am_s_iconst am_cc0 dc231_13.2.2.1 ?_
    refine am_s_istore (ls' := [some (.ref 163), some (.ref x1), some (.int x2), some (.int x3), some (.int 0), l5]) rfl rfl dc231_13.2.2.2 ?_
    exact (vi_f q c1)
theorem v231_181 {sc : Option (Nat × (Nat → Int32))} {d k n : Nat} {P : am_O → Prop} {I : am_I} {J : am_J} {Pf : am_R} (hp : am_PF Pf) {x1 : Nat} {Lx1 : Nat} (hx1 : am_SH[x1]? = some (.inr (0, Lx1))) {x2 : Int32} {x3 : Int32} {x4 : Int32} {l5 : Option Value} (q : (if 8 ≤ x4 then (am_go sc d 231 (172, [some (.ref 163), some (.ref x1), some (.int x2), some (.int (x3 + 1)), some (.int x4), l5], [], (am_SH, I, J, Pf), k, n) P) else (am_in x3 8 = true) ∧ (if (((I 169 (Int32.toNatClampNeg x3)) >>> (x4 &&& 31)) &&& 1) = 1 then (am_in x4 8 = true) ∧ (am_in x3 8 = true) ∧ (if (I 171 (Int32.toNatClampNeg x4)) ≤ (I 171 (Int32.toNatClampNeg x3)) then (am_go sc d 231 (181, [some (.ref 163), some (.ref x1), some (.int x2), some (.int x3), some (.int (x4 + 1)), l5], [], (am_SH, I, J, Pf), k, n) P) else (am_in x4 8 = true) ∧ (am_in x3 8 = true) ∧ (am_go sc d 231 (181, [some (.ref 163), some (.ref x1), some (.int x2), some (.int x3), some (.int (x4 + 1)), l5], [], (am_SH, am_u I 171 (Int32.toNatClampNeg x3) (I 171 (Int32.toNatClampNeg x4)), J, Pf), k, n) P)) else (am_go sc d 231 (181, [some (.ref 163), some (.ref x1), some (.int x2), some (.int x3), some (.int (x4 + 1)), l5], [], (am_SH, I, J, Pf), k, n) P)))) : am_go sc d 231 (181, [some (.ref 163), some (.ref x1), some (.int x2), some (.int x3), some (.int x4), l5], [], (am_SH, I, J, Pf), k, n) P := by
  refine am_s_iload rfl dc231_14.1.1.1 ?_
  refine am_s_bipush am_cb8 dc231_14.1.1.2 ?_
  refine am_s_ic_ge dc231_14.1.2.1 rfl (fun c1 => ?_) (fun c1 => ?_)
  · refine am_s_iinc (ls' := [some (.ref 163), some (.ref x1), some (.int x2), some (.int (x3 + 1)), some (.int x4), l5]) am_cc1 rfl rfl dc231_18.1.1.1 ?_
    refine am_s_goto rfl dc231_18.1.1.2 ?_
    exact (vi_t q c1)
  · refine am_s_aload_n rfl dc231_14.1.2.2 ?_
    refine am_s_getR (r := 169) dc231_14.2.1.1 rfl rfl rfl (hp _ _ _ rfl) ?_
    refine am_s_iload_n rfl dc231_14.2.1.2 ?_
    refine am_x_iaload (x := I 169 (Int32.toNatClampNeg x3)) dc231_14.2.2.1 rfl ((vi_f q c1).1) rfl rfl ?_
    refine am_s_iload rfl dc231_14.2.2.2 ?_
    refine am_s_ishr dc231_15.1.1.1 ?_
    refine am_s_iconst am_cc1 dc231_15.1.1.2 ?_
    refine am_s_iand dc231_15.1.2.1 ?_
    refine am_s_iconst am_cc1 dc231_15.1.2.2 ?_
    refine am_s_ic_ne dc231_15.2.1.1 rfl (fun c2 => ?_) (fun c2 => ?_)
    · refine am_s_iinc (ls' := [some (.ref 163), some (.ref x1), some (.int x2), some (.int x3), some (.int (x4 + 1)), l5]) am_cc1 rfl rfl dc231_17.2.2.1 ?_
      refine am_s_goto rfl dc231_17.2.2.2 ?_
      exact (vi_f (vi_f q c1).2 c2)
    · refine am_s_aload_n rfl dc231_15.2.1.2 ?_
      refine am_s_getR (r := 171) dc231_15.2.2.1 rfl rfl rfl (hp _ _ _ rfl) ?_
      refine am_s_iload rfl dc231_15.2.2.2 ?_
      refine am_x_iaload (x := I 171 (Int32.toNatClampNeg x4)) dc231_16.1.1.1 rfl ((vi_t (vi_f q c1).2 (Decidable.not_not.mp c2)).1) rfl rfl ?_
      refine am_s_aload_n rfl dc231_16.1.1.2 ?_
      refine am_s_getR (r := 171) dc231_16.1.2.1 rfl rfl rfl (hp _ _ _ rfl) ?_
      refine am_s_iload_n rfl dc231_16.1.2.2 ?_
      refine am_x_iaload (x := I 171 (Int32.toNatClampNeg x3)) dc231_16.2.1.1 rfl ((vi_t (vi_f q c1).2 (Decidable.not_not.mp c2)).2.1) rfl rfl ?_
      refine am_s_ic_le dc231_16.2.1.2 rfl (fun c3 => ?_) (fun c3 => ?_)
      · refine am_s_iinc (ls' := [some (.ref 163), some (.ref x1), some (.int x2), some (.int x3), some (.int (x4 + 1)), l5]) am_cc1 rfl rfl dc231_17.2.2.1 ?_
        refine am_s_goto rfl dc231_17.2.2.2 ?_
        exact (vi_t (vi_t (vi_f q c1).2 (Decidable.not_not.mp c2)).2.2 c3)
      · refine am_s_aload_n rfl dc231_16.2.2.1 ?_
        refine am_s_getR (r := 171) dc231_16.2.2.2 rfl rfl rfl (hp _ _ _ rfl) ?_
        refine am_s_iload_n rfl dc231_17.1.1.1 ?_
        refine am_s_aload_n rfl dc231_17.1.1.2 ?_
        refine am_s_getR (r := 171) dc231_17.1.2.1 rfl rfl rfl (hp _ _ _ rfl) ?_
        refine am_s_iload rfl dc231_17.1.2.2 ?_
        refine am_x_iaload (x := I 171 (Int32.toNatClampNeg x4)) dc231_17.2.1.1 rfl ((vi_f (vi_t (vi_f q c1).2 (Decidable.not_not.mp c2)).2.2 c3).1) rfl rfl ?_
        refine am_s_iastore dc231_17.2.1.2 rfl ((vi_f (vi_t (vi_f q c1).2 (Decidable.not_not.mp c2)).2.2 c3).2.1) rfl ?_
        refine am_s_iinc (ls' := [some (.ref 163), some (.ref x1), some (.int x2), some (.int x3), some (.int (x4 + 1)), l5]) am_cc1 rfl rfl dc231_17.2.2.1 ?_
        refine am_s_goto rfl dc231_17.2.2.2 ?_
        exact (vi_f (vi_t (vi_f q c1).2 (Decidable.not_not.mp c2)).2.2 c3).2.2
theorem v231_246 {sc : Option (Nat × (Nat → Int32))} {d k n : Nat} {P : am_O → Prop} {I : am_I} {J : am_J} {Pf : am_R} (hp : am_PF Pf) {x1 : Nat} {Lx1 : Nat} (hx1 : am_SH[x1]? = some (.inr (0, Lx1))) {x2 : Int32} {x3 : Int32} {l4 : Option Value} {l5 : Option Value} (q : (am_in 4 Lx1 = true) ∧ (if (I x1 (Int32.toNatClampNeg 4)) ≤ x3 then (am_go sc d 231 (164, [some (.ref 163), some (.ref x1), some (.int (x2 + 1)), some (.int x3), l4, l5], [], (am_SH, I, J, Pf), k, n) P) else (am_in (1008 + (4 * x3)) Lx1 = true) ∧ (am_in ((1008 + (4 * x3)) + 1) Lx1 = true) ∧ (am_in (I x1 (Int32.toNatClampNeg ((1008 + (4 * x3)) + 1))) 8 = true) ∧ (am_in (I x1 (Int32.toNatClampNeg (1008 + (4 * x3)))) 8 = true) ∧ (if (I 171 (Int32.toNatClampNeg (I x1 (Int32.toNatClampNeg ((1008 + (4 * x3)) + 1))))) < (I 171 (Int32.toNatClampNeg (I x1 (Int32.toNatClampNeg (1008 + (4 * x3)))))) then (am_go sc d 231 (246, [some (.ref 163), some (.ref x1), some (.int x2), some (.int (x3 + 1)), some (.int (I x1 (Int32.toNatClampNeg (1008 + (4 * x3))))), some (.int (I x1 (Int32.toNatClampNeg ((1008 + (4 * x3)) + 1))))], [], (am_SH, I, J, Pf), k, n) P) else (am_in (I x1 (Int32.toNatClampNeg ((1008 + (4 * x3)) + 1))) 8 = true) ∧ (am_in (I x1 (Int32.toNatClampNeg (1008 + (4 * x3)))) 8 = true) ∧ (am_go sc d 231 (246, [some (.ref 163), some (.ref x1), some (.int x2), some (.int (x3 + 1)), some (.int (I x1 (Int32.toNatClampNeg (1008 + (4 * x3))))), some (.int (I x1 (Int32.toNatClampNeg ((1008 + (4 * x3)) + 1))))], [], (am_SH, am_u I 171 (Int32.toNatClampNeg (I x1 (Int32.toNatClampNeg (1008 + (4 * x3))))) ((I 171 (Int32.toNatClampNeg (I x1 (Int32.toNatClampNeg ((1008 + (4 * x3)) + 1))))) + 1), J, Pf), k, n) P)))) : am_go sc d 231 (246, [some (.ref 163), some (.ref x1), some (.int x2), some (.int x3), l4, l5], [], (am_SH, I, J, Pf), k, n) P := by
  refine am_s_iload_n rfl dc231_18.2.1.1 ?_
  refine am_s_aload_n rfl dc231_18.2.1.2 ?_
  refine am_s_iconst am_cc4 dc231_18.2.2.1 ?_
  refine am_x_iaload (x := I x1 (Int32.toNatClampNeg 4)) dc231_18.2.2.2 hx1 (q.1) rfl rfl ?_
  refine am_s_ic_ge dc231_19.1.1.1 rfl (fun c1 => ?_) (fun c1 => ?_)
  · refine am_s_iinc (ls' := [some (.ref 163), some (.ref x1), some (.int (x2 + 1)), some (.int x3), l4, l5]) am_cc1 rfl rfl dc231_24.1 ?_
    refine am_s_goto rfl dc231_24.2.1 ?_
    exact (vi_t q.2 c1)
  · refine am_s_aload_n rfl dc231_19.1.1.2 ?_
    refine am_s_sipush am_cs1008 dc231_19.1.2.1 ?_
    refine am_s_iconst am_cc4 dc231_19.1.2.2 ?_
    refine am_s_iload_n rfl dc231_19.2.1.1 ?_
    refine am_s_imul dc231_19.2.1.2 ?_
    refine am_s_iadd dc231_19.2.2.1 ?_
    refine am_x_iaload (x := I x1 (Int32.toNatClampNeg (1008 + (4 * x3)))) dc231_19.2.2.2 hx1 ((vi_f q.2 c1).1) rfl rfl ?_
    refine am_s_istore (ls' := [some (.ref 163), some (.ref x1), some (.int x2), some (.int x3), some (.int (I x1 (Int32.toNatClampNeg (1008 + (4 * x3))))), l5]) rfl rfl dc231_20.1.1.1 ?_
    refine am_s_aload_n rfl dc231_20.1.1.2 ?_
    refine am_s_sipush am_cs1008 dc231_20.1.2.1 ?_
    refine am_s_iconst am_cc4 dc231_20.1.2.2 ?_
    refine am_s_iload_n rfl dc231_20.2.1.1 ?_
    refine am_s_imul dc231_20.2.1.2 ?_
    refine am_s_iadd dc231_20.2.2.1 ?_
    refine am_s_iconst am_cc1 dc231_20.2.2.2 ?_
    refine am_s_iadd dc231_21.1.1.1 ?_
    refine am_x_iaload (x := I x1 (Int32.toNatClampNeg ((1008 + (4 * x3)) + 1))) dc231_21.1.1.2 hx1 ((vi_f q.2 c1).2.1) rfl rfl ?_
    refine am_s_istore (ls' := [some (.ref 163), some (.ref x1), some (.int x2), some (.int x3), some (.int (I x1 (Int32.toNatClampNeg (1008 + (4 * x3))))), some (.int (I x1 (Int32.toNatClampNeg ((1008 + (4 * x3)) + 1))))]) rfl rfl dc231_21.1.2.1 ?_
    refine am_s_aload_n rfl dc231_21.1.2.2 ?_
    refine am_s_getR (r := 171) dc231_21.2.1.1 rfl rfl rfl (hp _ _ _ rfl) ?_
    refine am_s_iload rfl dc231_21.2.1.2 ?_
    refine am_x_iaload (x := I 171 (Int32.toNatClampNeg (I x1 (Int32.toNatClampNeg ((1008 + (4 * x3)) + 1))))) dc231_21.2.2.1 rfl ((vi_f q.2 c1).2.2.1) rfl rfl ?_
    refine am_s_aload_n rfl dc231_21.2.2.2 ?_
    refine am_s_getR (r := 171) dc231_22.1.1.1 rfl rfl rfl (hp _ _ _ rfl) ?_
    refine am_s_iload rfl dc231_22.1.1.2 ?_
    refine am_x_iaload (x := I 171 (Int32.toNatClampNeg (I x1 (Int32.toNatClampNeg (1008 + (4 * x3)))))) dc231_22.1.2.1 rfl ((vi_f q.2 c1).2.2.2.1) rfl rfl ?_
    refine am_s_ic_lt dc231_22.1.2.2 rfl (fun c2 => ?_) (fun c2 => ?_)
    · refine am_s_iinc (ls' := [some (.ref 163), some (.ref x1), some (.int x2), some (.int (x3 + 1)), some (.int (I x1 (Int32.toNatClampNeg (1008 + (4 * x3))))), some (.int (I x1 (Int32.toNatClampNeg ((1008 + (4 * x3)) + 1))))]) am_cc1 rfl rfl dc231_23.2.2.1 ?_
      refine am_s_goto rfl dc231_23.2.2.2 ?_
      exact (vi_t (vi_f q.2 c1).2.2.2.2 c2)
    · refine am_s_aload_n rfl dc231_22.2.1.1 ?_
      refine am_s_getR (r := 171) dc231_22.2.1.2 rfl rfl rfl (hp _ _ _ rfl) ?_
      refine am_s_iload rfl dc231_22.2.2.1 ?_
      refine am_s_aload_n rfl dc231_22.2.2.2 ?_
      refine am_s_getR (r := 171) dc231_23.1.1.1 rfl rfl rfl (hp _ _ _ rfl) ?_
      refine am_s_iload rfl dc231_23.1.1.2 ?_
      refine am_x_iaload (x := I 171 (Int32.toNatClampNeg (I x1 (Int32.toNatClampNeg ((1008 + (4 * x3)) + 1))))) dc231_23.1.2.1 rfl ((vi_f (vi_f q.2 c1).2.2.2.2 c2).1) rfl rfl ?_
      refine am_s_iconst am_cc1 dc231_23.1.2.2 ?_
      refine am_s_iadd dc231_23.2.1.1 ?_
      refine am_s_iastore dc231_23.2.1.2 rfl ((vi_f (vi_f q.2 c1).2.2.2.2 c2).2.1) rfl ?_
      refine am_s_iinc (ls' := [some (.ref 163), some (.ref x1), some (.int x2), some (.int (x3 + 1)), some (.int (I x1 (Int32.toNatClampNeg (1008 + (4 * x3))))), some (.int (I x1 (Int32.toNatClampNeg ((1008 + (4 * x3)) + 1))))]) am_cc1 rfl rfl dc231_23.2.2.1 ?_
      refine am_s_goto rfl dc231_23.2.2.2 ?_
      exact (vi_f (vi_f q.2 c1).2.2.2.2 c2).2.2
theorem v231_5 {sc : Option (Nat × (Nat → Int32))} {d k n : Nat} {P : am_O → Prop} {I : am_I} {J : am_J} {Pf : am_R} (hp : am_PF Pf) {x1 : Nat} {Lx1 : Nat} (hx1 : am_SH[x1]? = some (.inr (0, Lx1))) {l2 : Option Value} {l3 : Option Value} {l4 : Option Value} {l5 : Option Value} (q : (am_go sc d 231 (7, [some (.ref 163), some (.ref x1), some (.int 0), l3, l4, l5], [], (am_SH, I, J, Pf), k, n) P)) : am_go sc d 231 (5, [some (.ref 163), some (.ref x1), l2, l3, l4, l5], [], (am_SH, I, J, Pf), k, n) P := by
  refine am_s_iconst am_cc0 dc231_0.1.2.2 ?_
  refine am_s_istore_n (ls' := [some (.ref 163), some (.ref x1), some (.int 0), l3, l4, l5]) rfl rfl dc231_0.2.1.1 ?_
  exact q
-- emit (II)V
theorem v232_0 {sc : Option (Nat × (Nat → Int32))} {d k n : Nat} {P : am_O → Prop} {I : am_I} {J : am_J} {Pf : am_R} (hp : am_PF Pf) {x1 : Int32} {x2 : Int32} (q : (if (I 163 5) = (-1) then (am_in (I 163 28) 150 = true) ∧ (am_in (I 163 28) 150 = true) ∧ (P (.inl none, (am_SH, am_u (am_u (am_u I 172 (Int32.toNatClampNeg (I 163 28)) x1) 173 (Int32.toNatClampNeg (I 163 28)) x2) 163 28 ((I 163 28) + 1), J, Pf), k, n)) else (P (.inl none, (am_SH, I, J, Pf), k, n)))) : am_go sc (d + 1) 232 (0, [some (.ref 163), some (.int x1), some (.int x2)], [], (am_SH, I, J, Pf), k, n) P := by
  refine am_s_aload_n rfl dc232_0.1.1.1 ?_
  refine am_s_virtual true dc232_0.1.1.2 rfl (by decide) rfl rfl rfl (am_mth_of rfl rfl ?_)
  refine am_s_aload_n rfl dc193_0.1.1.1 ?_
  refine am_x_getI (x := I 163 5) dc193_0.1.1.2 rfl rfl (Or.inl rfl) rfl ?_
  refine am_s_iconst am_ccm1 dc193_0.1.2.1 ?_
  refine am_s_ic_ne dc193_0.1.2.2 rfl (fun c1 => ?_) (fun c1 => ?_)
  · refine am_s_iconst am_cc0 dc193_0.2.2.1 ?_
    refine am_s_zreturn dc193_0.2.2.2 rfl (by decide) (am_bkI ?_)
    refine am_s_if_ne dc232_0.1.2.1 rfl (fun z => absurd z (by decide)) (fun _ => ?_)
    exact am_s_return dc232_0.1.2.2 rfl ((vi_f q c1))
  · refine am_s_iconst am_cc1 dc193_0.2.1.1 ?_
    refine am_s_goto rfl dc193_0.2.1.2 ?_
    refine am_s_zreturn dc193_0.2.2.2 rfl (by decide) (am_bkI ?_)
    refine am_s_if_ne dc232_0.1.2.1 rfl (fun _ => ?_) (fun z => absurd z (by decide))
    refine am_s_aload_n rfl dc232_0.2.1.1 ?_
    refine am_s_getR (r := 172) dc232_0.2.1.2 rfl rfl rfl (hp _ _ _ rfl) ?_
    refine am_s_aload_n rfl dc232_0.2.2.1 ?_
    refine am_x_getI (x := I 163 28) dc232_0.2.2.2 rfl rfl (Or.inl rfl) rfl ?_
    refine am_s_iload_n rfl dc232_1.1.1.1 ?_
    refine am_s_iastore dc232_1.1.1.2 rfl ((vi_t q (Decidable.not_not.mp c1)).1) rfl ?_
    refine am_s_aload_n rfl dc232_1.1.2.1 ?_
    refine am_s_getR (r := 173) dc232_1.1.2.2 rfl rfl rfl (hp _ _ _ rfl) ?_
    refine am_s_aload_n rfl dc232_1.2.1.1 ?_
    refine am_x_getI (x := I 163 28) dc232_1.2.1.2 rfl rfl (Or.inl rfl) rfl ?_
    refine am_s_iload_n rfl dc232_1.2.2.1 ?_
    refine am_s_iastore dc232_1.2.2.2 rfl ((vi_t q (Decidable.not_not.mp c1)).2.1) rfl ?_
    refine am_s_aload_n rfl dc232_2.1.1 ?_
    refine am_s_dup rfl dc232_2.1.2.1 ?_
    refine am_x_getI (x := I 163 28) dc232_2.1.2.2 rfl rfl (Or.inl rfl) rfl ?_
    refine am_s_iconst am_cc1 dc232_2.2.1.1 ?_
    refine am_s_iadd dc232_2.2.1.2 ?_
    refine am_s_putI dc232_2.2.2.1 rfl rfl rfl rfl ?_
    exact am_s_return dc232_2.2.2.2 rfl ((vi_t q (Decidable.not_not.mp c1)).2.2)
-- opensOne (I)V
theorem v233_0 {sc : Option (Nat × (Nat → Int32))} {d k n : Nat} {P : am_O → Prop} {I : am_I} {J : am_J} {Pf : am_R} (hp : am_PF Pf) {x1 : Int32} (q : (if (I 163 5) = (-1) then (if (I 163 7) = 6 then (am_go sc (d + 1) 233 (25, [some (.ref 163), some (.int x1)], [], (am_SH, am_u (am_u I 163 5 (I 163 4)) 163 6 3, J, Pf), k, n) P) else (am_go sc (d + 1) 233 (25, [some (.ref 163), some (.int x1)], [], (am_SH, I, J, Pf), k, n) P)) else (am_go sc (d + 1) 233 (25, [some (.ref 163), some (.int x1)], [], (am_SH, I, J, Pf), k, n) P))) : am_go sc (d + 1) 233 (0, [some (.ref 163), some (.int x1)], [], (am_SH, I, J, Pf), k, n) P := by
  refine am_s_aload_n rfl dc233_0.1.1.1 ?_
  refine am_s_virtual true dc233_0.1.1.2 rfl (by decide) rfl rfl rfl (am_mth_of rfl rfl ?_)
  refine am_s_aload_n rfl dc193_0.1.1.1 ?_
  refine am_x_getI (x := I 163 5) dc193_0.1.1.2 rfl rfl (Or.inl rfl) rfl ?_
  refine am_s_iconst am_ccm1 dc193_0.1.2.1 ?_
  refine am_s_ic_ne dc193_0.1.2.2 rfl (fun c1 => ?_) (fun c1 => ?_)
  · refine am_s_iconst am_cc0 dc193_0.2.2.1 ?_
    refine am_s_zreturn dc193_0.2.2.2 rfl (by decide) (am_bkI ?_)
    refine am_s_if_eq dc233_0.1.2.1 rfl (fun _ => ?_) (fun z => absurd z (by decide))
    exact (vi_f q c1)
  · refine am_s_iconst am_cc1 dc193_0.2.1.1 ?_
    refine am_s_goto rfl dc193_0.2.1.2 ?_
    refine am_s_zreturn dc193_0.2.2.2 rfl (by decide) (am_bkI ?_)
    refine am_s_if_eq dc233_0.1.2.1 rfl (fun z => absurd z (by decide)) (fun _ => ?_)
    refine am_s_aload_n rfl dc233_0.1.2.2 ?_
    refine am_x_getI (x := I 163 7) dc233_0.2.1.1 rfl rfl (Or.inl rfl) rfl ?_
    refine am_s_bipush am_cb6 dc233_0.2.1.2 ?_
    refine am_s_ic_ne dc233_0.2.2.1 rfl (fun c2 => ?_) (fun c2 => ?_)
    · exact (vi_f (vi_t q (Decidable.not_not.mp c1)) c2)
    · refine am_s_aload_n rfl dc233_0.2.2.2 ?_
      refine am_s_iconst am_cc3 dc233_1.1.1.1 ?_
      refine am_s_aload_n rfl dc233_1.1.1.2 ?_
      refine am_x_getI (x := I 163 4) dc233_1.1.2.1 rfl rfl (Or.inl rfl) rfl ?_
      refine am_s_virtual true dc233_1.1.2.2 rfl (by decide) rfl rfl rfl (am_mth_of rfl rfl ?_)
      refine am_s_aload_n rfl dc194_0.1.1.1 ?_
      refine am_x_getI (x := I 163 5) dc194_0.1.1.2 rfl rfl (Or.inl rfl) rfl ?_
      refine am_s_iconst am_ccm1 dc194_0.1.2.1 ?_
      refine am_s_ic_eq dc194_0.1.2.2 rfl (fun _ => ?_) (fun z => absurd z c1)
      refine am_s_aload_n rfl dc194_0.2.1.2 ?_
      refine am_s_iload_n rfl dc194_0.2.2.1 ?_
      refine am_s_putI dc194_0.2.2.2 rfl rfl rfl rfl ?_
      refine am_s_aload_n rfl dc194_1.1.1 ?_
      refine am_s_iload_n rfl dc194_1.1.2 ?_
      refine am_s_putI dc194_1.2.1 rfl rfl rfl rfl ?_
      refine am_s_return dc194_1.2.2 rfl (am_bkV ?_)
      exact (vi_t (vi_t q (Decidable.not_not.mp c1)) (Decidable.not_not.mp c2))
theorem v233_25 {sc : Option (Nat × (Nat → Int32))} {d k n : Nat} {P : am_O → Prop} {I : am_I} {J : am_J} {Pf : am_R} (hp : am_PF Pf) {x1 : Int32} (q : (if (I 163 5) = (-1) then (am_go sc (d + 1) 233 (42, [some (.ref 163), some (.int x1)], [], (am_SH, am_u I 163 4 ((I 163 4) + x1), J, Pf), k, n) P) else (am_go sc (d + 1) 233 (42, [some (.ref 163), some (.int x1)], [], (am_SH, I, J, Pf), k, n) P))) : am_go sc (d + 1) 233 (25, [some (.ref 163), some (.int x1)], [], (am_SH, I, J, Pf), k, n) P := by
  refine am_s_aload_n rfl dc233_1.2.1.1 ?_
  refine am_s_virtual true dc233_1.2.1.2 rfl (by decide) rfl rfl rfl (am_mth_of rfl rfl ?_)
  refine am_s_aload_n rfl dc193_0.1.1.1 ?_
  refine am_x_getI (x := I 163 5) dc193_0.1.1.2 rfl rfl (Or.inl rfl) rfl ?_
  refine am_s_iconst am_ccm1 dc193_0.1.2.1 ?_
  refine am_s_ic_ne dc193_0.1.2.2 rfl (fun c1 => ?_) (fun c1 => ?_)
  · refine am_s_iconst am_cc0 dc193_0.2.2.1 ?_
    refine am_s_zreturn dc193_0.2.2.2 rfl (by decide) (am_bkI ?_)
    refine am_s_if_eq dc233_1.2.2.1 rfl (fun _ => ?_) (fun z => absurd z (by decide))
    exact (vi_f q c1)
  · refine am_s_iconst am_cc1 dc193_0.2.1.1 ?_
    refine am_s_goto rfl dc193_0.2.1.2 ?_
    refine am_s_zreturn dc193_0.2.2.2 rfl (by decide) (am_bkI ?_)
    refine am_s_if_eq dc233_1.2.2.1 rfl (fun z => absurd z (by decide)) (fun _ => ?_)
    refine am_s_aload_n rfl dc233_1.2.2.2 ?_
    refine am_s_dup rfl dc233_2.1.1.1 ?_
    refine am_x_getI (x := I 163 4) dc233_2.1.1.2 rfl rfl (Or.inl rfl) rfl ?_
    refine am_s_iload_n rfl dc233_2.1.2.1 ?_
    refine am_s_iadd dc233_2.1.2.2 ?_
    refine am_s_putI dc233_2.2.1.1 rfl rfl rfl rfl ?_
    exact (vi_t q (Decidable.not_not.mp c1))
theorem v233_42 {sc : Option (Nat × (Nat → Int32))} {d k n : Nat} {P : am_O → Prop} {I : am_I} {J : am_J} {Pf : am_R} (hp : am_PF Pf) {l1 : Option Value} (q : (P (.inl none, (am_SH, am_u I 163 7 ((I 163 7) + 1), J, Pf), k, n))) : am_go sc d 233 (42, [some (.ref 163), l1], [], (am_SH, I, J, Pf), k, n) P := by
  refine am_s_aload_n rfl dc233_2.2.1.2 ?_
  refine am_s_dup rfl dc233_2.2.2.1 ?_
  refine am_x_getI (x := I 163 7) dc233_2.2.2.2 rfl rfl (Or.inl rfl) rfl ?_
  refine am_s_iconst am_cc1 dc233_3.1.1 ?_
  refine am_s_iadd dc233_3.1.2 ?_
  refine am_s_putI dc233_3.2.1 rfl rfl rfl rfl ?_
  exact am_s_return dc233_3.2.2 rfl (q)
-- readSum ()V
theorem v234_0 {sc : Option (Nat × (Nat → Int32))} {d k n : Nat} {P : am_O → Prop} {I : am_I} {J : am_J} {Pf : am_R} (hp : am_PF Pf) {l1 : Option Value} (q : (am_mth d 235 [.ref 163] (am_SH, I, J, Pf) (am_af sc d 234 1 [some (.ref 163), l1] [.ref 163] [] (am_SH, I, J, Pf) k n true P))) : am_go sc d 234 (0, [some (.ref 163), l1], [], (am_SH, I, J, Pf), k, n) P := by
  refine am_s_aload_n rfl dc234_0.1.1.1 ?_
  exact am_s_virtual true dc234_0.1.1.2 rfl (by decide) rfl rfl rfl (q)
theorem v234_4 {sc : Option (Nat × (Nat → Int32))} {d k n : Nat} {P : am_O → Prop} {I : am_I} {J : am_J} {Pf : am_R} (hp : am_PF Pf) {l1 : Option Value} (q : (if (I 163 5) = (-1) then (am_mth (d + 1) 195 [.ref 163] (am_SH, I, J, Pf) (am_af sc (d + 1) 234 12 [some (.ref 163), l1] [.ref 163] [] (am_SH, I, J, Pf) k n true P)) else (P (.inl none, (am_SH, I, J, Pf), k, n)))) : am_go sc (d + 1) 234 (4, [some (.ref 163), l1], [], (am_SH, I, J, Pf), k, n) P := by
  refine am_s_aload_n rfl dc234_0.1.2.1 ?_
  refine am_s_virtual true dc234_0.1.2.2 rfl (by decide) rfl rfl rfl (am_mth_of rfl rfl ?_)
  refine am_s_aload_n rfl dc193_0.1.1.1 ?_
  refine am_x_getI (x := I 163 5) dc193_0.1.1.2 rfl rfl (Or.inl rfl) rfl ?_
  refine am_s_iconst am_ccm1 dc193_0.1.2.1 ?_
  refine am_s_ic_ne dc193_0.1.2.2 rfl (fun c1 => ?_) (fun c1 => ?_)
  · refine am_s_iconst am_cc0 dc193_0.2.2.1 ?_
    refine am_s_zreturn dc193_0.2.2.2 rfl (by decide) (am_bkI ?_)
    refine am_s_if_eq dc234_0.2.1.1 rfl (fun _ => ?_) (fun z => absurd z (by decide))
    exact am_s_return dc234_4.2.2 rfl ((vi_f q c1))
  · refine am_s_iconst am_cc1 dc193_0.2.1.1 ?_
    refine am_s_goto rfl dc193_0.2.1.2 ?_
    refine am_s_zreturn dc193_0.2.2.2 rfl (by decide) (am_bkI ?_)
    refine am_s_if_eq dc234_0.2.1.1 rfl (fun z => absurd z (by decide)) (fun _ => ?_)
    refine am_s_aload_n rfl dc234_0.2.1.2 ?_
    exact am_s_virtual true dc234_0.2.2.1 rfl (by decide) rfl rfl rfl ((vi_t q (Decidable.not_not.mp c1)))
theorem v234_15 {sc : Option (Nat × (Nat → Int32))} {d k n : Nat} {P : am_O → Prop} {I : am_I} {J : am_J} {Pf : am_R} (hp : am_PF Pf) {l1 : Option Value} {s0 : Int32} (q : (if s0 = 43 then (am_mth d 195 [.ref 163] (am_SH, I, J, Pf) (am_af sc d 234 30 [some (.ref 163), l1] [.ref 163] [] (am_SH, I, J, Pf) k n true P)) else (am_mth d 195 [.ref 163] (am_SH, I, J, Pf) (am_af sc d 234 21 [some (.ref 163), l1] [.ref 163] [] (am_SH, I, J, Pf) k n true P)))) : am_go sc d 234 (15, [some (.ref 163), l1], [.int s0], (am_SH, I, J, Pf), k, n) P := by
  refine am_s_bipush am_cb43 dc234_0.2.2.2 ?_
  refine am_s_ic_eq dc234_1.1.1.1 rfl (fun c1 => ?_) (fun c1 => ?_)
  · refine am_s_aload_n rfl dc234_1.2.1.2 ?_
    exact am_s_virtual true dc234_1.2.2.1 rfl (by decide) rfl rfl rfl ((vi_t q c1))
  · refine am_s_aload_n rfl dc234_1.1.1.2 ?_
    exact am_s_virtual true dc234_1.1.2.1 rfl (by decide) rfl rfl rfl ((vi_f q c1))
theorem v234_24 {sc : Option (Nat × (Nat → Int32))} {d k n : Nat} {P : am_O → Prop} {I : am_I} {J : am_J} {Pf : am_R} (hp : am_PF Pf) {l1 : Option Value} {s0 : Int32} (q : (if s0 = 45 then (am_mth d 195 [.ref 163] (am_SH, I, J, Pf) (am_af sc d 234 30 [some (.ref 163), l1] [.ref 163] [] (am_SH, I, J, Pf) k n true P)) else (P (.inl none, (am_SH, I, J, Pf), k, n)))) : am_go sc d 234 (24, [some (.ref 163), l1], [.int s0], (am_SH, I, J, Pf), k, n) P := by
  refine am_s_bipush am_cb45 dc234_1.1.2.2 ?_
  refine am_s_ic_ne dc234_1.2.1.1 rfl (fun c1 => ?_) (fun c1 => ?_)
  · exact am_s_return dc234_4.2.2 rfl ((vi_f q c1))
  · refine am_s_aload_n rfl dc234_1.2.1.2 ?_
    exact am_s_virtual true dc234_1.2.2.1 rfl (by decide) rfl rfl rfl ((vi_t q (Decidable.not_not.mp c1)))
theorem v234_33 {sc : Option (Nat × (Nat → Int32))} {d k n : Nat} {P : am_O → Prop} {I : am_I} {J : am_J} {Pf : am_R} (hp : am_PF Pf) {l1 : Option Value} {s0 : Int32} (q : (if s0 = 43 then (am_mth d 235 [.ref 163] (am_SH, am_u I 163 4 ((I 163 4) + 1), J, Pf) (am_af sc d 234 55 [some (.ref 163), some (.int 2)] [.ref 163] [] (am_SH, am_u I 163 4 ((I 163 4) + 1), J, Pf) k n true P)) else (am_mth d 235 [.ref 163] (am_SH, am_u I 163 4 ((I 163 4) + 1), J, Pf) (am_af sc d 234 55 [some (.ref 163), some (.int 3)] [.ref 163] [] (am_SH, am_u I 163 4 ((I 163 4) + 1), J, Pf) k n true P)))) : am_go sc d 234 (33, [some (.ref 163), l1], [.int s0], (am_SH, I, J, Pf), k, n) P := by
  refine am_s_bipush am_cb43 dc234_1.2.2.2 ?_
  refine am_s_ic_ne dc234_2.1.1.1 rfl (fun c1 => ?_) (fun c1 => ?_)
  · refine am_s_iconst am_cc3 dc234_2.1.2.2 ?_
    refine am_s_istore_n (ls' := [some (.ref 163), some (.int 3)]) rfl rfl dc234_2.2.1.1 ?_
    refine am_s_aload_n rfl dc234_2.2.1.2 ?_
    refine am_s_dup rfl dc234_2.2.2.1 ?_
    refine am_x_getI (x := I 163 4) dc234_2.2.2.2 rfl rfl (Or.inl rfl) rfl ?_
    refine am_s_iconst am_cc1 dc234_3.1.1.1 ?_
    refine am_s_iadd dc234_3.1.1.2 ?_
    refine am_s_putI dc234_3.1.2.1 rfl rfl rfl rfl ?_
    refine am_s_aload_n rfl dc234_3.1.2.2 ?_
    exact am_s_virtual true dc234_3.2.1.1 rfl (by decide) rfl rfl rfl ((vi_f q c1))
  · refine am_s_iconst am_cc2 dc234_2.1.1.2 ?_
    refine am_s_goto rfl dc234_2.1.2.1 ?_
    refine am_s_istore_n (ls' := [some (.ref 163), some (.int 2)]) rfl rfl dc234_2.2.1.1 ?_
    refine am_s_aload_n rfl dc234_2.2.1.2 ?_
    refine am_s_dup rfl dc234_2.2.2.1 ?_
    refine am_x_getI (x := I 163 4) dc234_2.2.2.2 rfl rfl (Or.inl rfl) rfl ?_
    refine am_s_iconst am_cc1 dc234_3.1.1.1 ?_
    refine am_s_iadd dc234_3.1.1.2 ?_
    refine am_s_putI dc234_3.1.2.1 rfl rfl rfl rfl ?_
    refine am_s_aload_n rfl dc234_3.1.2.2 ?_
    exact am_s_virtual true dc234_3.2.1.1 rfl (by decide) rfl rfl rfl ((vi_t q (Decidable.not_not.mp c1)))
theorem v234_58 {sc : Option (Nat × (Nat → Int32))} {d k n : Nat} {P : am_O → Prop} {I : am_I} {J : am_J} {Pf : am_R} (hp : am_PF Pf) {x1 : Int32} (q : (if (I 163 5) = (-1) then (am_in (I 163 28) 150 = true) ∧ (am_in (I 163 28) 150 = true) ∧ (am_go sc (d + 2) 234 (4, [some (.ref 163), some (.int x1)], [], (am_SH, am_u (am_u (am_u I 172 (Int32.toNatClampNeg (I 163 28)) x1) 173 (Int32.toNatClampNeg (I 163 28)) 0) 163 28 ((I 163 28) + 1), J, Pf), k, n) P) else (am_go sc (d + 2) 234 (4, [some (.ref 163), some (.int x1)], [], (am_SH, I, J, Pf), k, n) P))) : am_go sc (d + 2) 234 (58, [some (.ref 163), some (.int x1)], [], (am_SH, I, J, Pf), k, n) P := by
  refine am_s_aload_n rfl dc234_3.2.1.2 ?_
  refine am_s_iload_n rfl dc234_3.2.2.1 ?_
  refine am_s_iconst am_cc0 dc234_3.2.2.2 ?_
  refine am_s_virtual true dc234_4.1 rfl (by decide) rfl rfl rfl (am_mth_of rfl rfl ?_)
  refine am_s_aload_n rfl dc232_0.1.1.1 ?_
  refine am_s_virtual true dc232_0.1.1.2 rfl (by decide) rfl rfl rfl (am_mth_of rfl rfl ?_)
  refine am_s_aload_n rfl dc193_0.1.1.1 ?_
  refine am_x_getI (x := I 163 5) dc193_0.1.1.2 rfl rfl (Or.inl rfl) rfl ?_
  refine am_s_iconst am_ccm1 dc193_0.1.2.1 ?_
  refine am_s_ic_ne dc193_0.1.2.2 rfl (fun c1 => ?_) (fun c1 => ?_)
  · refine am_s_iconst am_cc0 dc193_0.2.2.1 ?_
    refine am_s_zreturn dc193_0.2.2.2 rfl (by decide) (am_bkI ?_)
    refine am_s_if_ne dc232_0.1.2.1 rfl (fun z => absurd z (by decide)) (fun _ => ?_)
    refine am_s_return dc232_0.1.2.2 rfl (am_bkV ?_)
    refine am_s_goto rfl dc234_4.2.1 ?_
    exact (vi_f q c1)
  · refine am_s_iconst am_cc1 dc193_0.2.1.1 ?_
    refine am_s_goto rfl dc193_0.2.1.2 ?_
    refine am_s_zreturn dc193_0.2.2.2 rfl (by decide) (am_bkI ?_)
    refine am_s_if_ne dc232_0.1.2.1 rfl (fun _ => ?_) (fun z => absurd z (by decide))
    refine am_s_aload_n rfl dc232_0.2.1.1 ?_
    refine am_s_getR (r := 172) dc232_0.2.1.2 rfl rfl rfl (hp _ _ _ rfl) ?_
    refine am_s_aload_n rfl dc232_0.2.2.1 ?_
    refine am_x_getI (x := I 163 28) dc232_0.2.2.2 rfl rfl (Or.inl rfl) rfl ?_
    refine am_s_iload_n rfl dc232_1.1.1.1 ?_
    refine am_s_iastore dc232_1.1.1.2 rfl ((vi_t q (Decidable.not_not.mp c1)).1) rfl ?_
    refine am_s_aload_n rfl dc232_1.1.2.1 ?_
    refine am_s_getR (r := 173) dc232_1.1.2.2 rfl rfl rfl (hp _ _ _ rfl) ?_
    refine am_s_aload_n rfl dc232_1.2.1.1 ?_
    refine am_x_getI (x := I 163 28) dc232_1.2.1.2 rfl rfl (Or.inl rfl) rfl ?_
    refine am_s_iload_n rfl dc232_1.2.2.1 ?_
    refine am_s_iastore dc232_1.2.2.2 rfl ((vi_t q (Decidable.not_not.mp c1)).2.1) rfl ?_
    refine am_s_aload_n rfl dc232_2.1.1 ?_
    refine am_s_dup rfl dc232_2.1.2.1 ?_
    refine am_x_getI (x := I 163 28) dc232_2.1.2.2 rfl rfl (Or.inl rfl) rfl ?_
    refine am_s_iconst am_cc1 dc232_2.2.1.1 ?_
    refine am_s_iadd dc232_2.2.1.2 ?_
    refine am_s_putI dc232_2.2.2.1 rfl rfl rfl rfl ?_
    refine am_s_return dc232_2.2.2.2 rfl (am_bkV ?_)
    refine am_s_goto rfl dc234_4.2.1 ?_
    exact (vi_t q (Decidable.not_not.mp c1)).2.2
-- readProduct ()V
theorem v235_0 {sc : Option (Nat × (Nat → Int32))} {d k n : Nat} {P : am_O → Prop} {I : am_I} {J : am_J} {Pf : am_R} (hp : am_PF Pf) {l1 : Option Value} (q : (am_mth d 238 [.ref 163] (am_SH, I, J, Pf) (am_af sc d 235 1 [some (.ref 163), l1] [.ref 163] [] (am_SH, I, J, Pf) k n true P))) : am_go sc d 235 (0, [some (.ref 163), l1], [], (am_SH, I, J, Pf), k, n) P := by
  refine am_s_aload_n rfl dc235_0.1.1.1 ?_
  exact am_s_virtual true dc235_0.1.1.2 rfl (by decide) rfl rfl rfl (q)
theorem v235_4 {sc : Option (Nat × (Nat → Int32))} {d k n : Nat} {P : am_O → Prop} {I : am_I} {J : am_J} {Pf : am_R} (hp : am_PF Pf) {l1 : Option Value} (q : (if (I 163 5) = (-1) then (am_mth (d + 1) 195 [.ref 163] (am_SH, I, J, Pf) (am_af sc (d + 1) 235 12 [some (.ref 163), l1] [.ref 163] [] (am_SH, I, J, Pf) k n true P)) else (P (.inl none, (am_SH, I, J, Pf), k, n)))) : am_go sc (d + 1) 235 (4, [some (.ref 163), l1], [], (am_SH, I, J, Pf), k, n) P := by
  refine am_s_aload_n rfl dc235_0.1.2.1 ?_
  refine am_s_virtual true dc235_0.1.2.2 rfl (by decide) rfl rfl rfl (am_mth_of rfl rfl ?_)
  refine am_s_aload_n rfl dc193_0.1.1.1 ?_
  refine am_x_getI (x := I 163 5) dc193_0.1.1.2 rfl rfl (Or.inl rfl) rfl ?_
  refine am_s_iconst am_ccm1 dc193_0.1.2.1 ?_
  refine am_s_ic_ne dc193_0.1.2.2 rfl (fun c1 => ?_) (fun c1 => ?_)
  · refine am_s_iconst am_cc0 dc193_0.2.2.1 ?_
    refine am_s_zreturn dc193_0.2.2.2 rfl (by decide) (am_bkI ?_)
    refine am_s_if_eq dc235_0.2.1.1 rfl (fun _ => ?_) (fun z => absurd z (by decide))
    exact am_s_return dc235_5.2.2.2 rfl ((vi_f q c1))
  · refine am_s_iconst am_cc1 dc193_0.2.1.1 ?_
    refine am_s_goto rfl dc193_0.2.1.2 ?_
    refine am_s_zreturn dc193_0.2.2.2 rfl (by decide) (am_bkI ?_)
    refine am_s_if_eq dc235_0.2.1.1 rfl (fun z => absurd z (by decide)) (fun _ => ?_)
    refine am_s_aload_n rfl dc235_0.2.1.2 ?_
    exact am_s_virtual true dc235_0.2.2.1 rfl (by decide) rfl rfl rfl ((vi_t q (Decidable.not_not.mp c1)))
theorem v235_15 {sc : Option (Nat × (Nat → Int32))} {d k n : Nat} {P : am_O → Prop} {I : am_I} {J : am_J} {Pf : am_R} (hp : am_PF Pf) {l1 : Option Value} {s0 : Int32} (q : (if s0 = 42 then (am_mth d 195 [.ref 163] (am_SH, I, J, Pf) (am_af sc d 235 39 [some (.ref 163), l1] [.ref 163] [] (am_SH, I, J, Pf) k n true P)) else (am_mth d 195 [.ref 163] (am_SH, I, J, Pf) (am_af sc d 235 21 [some (.ref 163), l1] [.ref 163] [] (am_SH, I, J, Pf) k n true P)))) : am_go sc d 235 (15, [some (.ref 163), l1], [.int s0], (am_SH, I, J, Pf), k, n) P := by
  refine am_s_bipush am_cb42 dc235_0.2.2.2 ?_
  refine am_s_ic_eq dc235_1.1.1.1 rfl (fun c1 => ?_) (fun c1 => ?_)
  · refine am_s_aload_n rfl dc235_2.1.1.2 ?_
    exact am_s_virtual true dc235_2.1.2.1 rfl (by decide) rfl rfl rfl ((vi_t q c1))
  · refine am_s_aload_n rfl dc235_1.1.1.2 ?_
    exact am_s_virtual true dc235_1.1.2.1 rfl (by decide) rfl rfl rfl ((vi_f q c1))
theorem v235_24 {sc : Option (Nat × (Nat → Int32))} {d k n : Nat} {P : am_O → Prop} {I : am_I} {J : am_J} {Pf : am_R} (hp : am_PF Pf) {l1 : Option Value} {s0 : Int32} (q : (if s0 = 47 then (am_mth d 195 [.ref 163] (am_SH, I, J, Pf) (am_af sc d 235 39 [some (.ref 163), l1] [.ref 163] [] (am_SH, I, J, Pf) k n true P)) else (am_mth d 195 [.ref 163] (am_SH, I, J, Pf) (am_af sc d 235 30 [some (.ref 163), l1] [.ref 163] [] (am_SH, I, J, Pf) k n true P)))) : am_go sc d 235 (24, [some (.ref 163), l1], [.int s0], (am_SH, I, J, Pf), k, n) P := by
  refine am_s_bipush am_cb47 dc235_1.1.2.2 ?_
  refine am_s_ic_eq dc235_1.2.1.1 rfl (fun c1 => ?_) (fun c1 => ?_)
  · refine am_s_aload_n rfl dc235_2.1.1.2 ?_
    exact am_s_virtual true dc235_2.1.2.1 rfl (by decide) rfl rfl rfl ((vi_t q c1))
  · refine am_s_aload_n rfl dc235_1.2.1.2 ?_
    exact am_s_virtual true dc235_1.2.2.1 rfl (by decide) rfl rfl rfl ((vi_f q c1))
theorem v235_42 {sc : Option (Nat × (Nat → Int32))} {d k n : Nat} {P : am_O → Prop} {I : am_I} {J : am_J} {Pf : am_R} (hp : am_PF Pf) {l1 : Option Value} {s0 : Int32} (q : (if s0 = 42 then (am_mth d 238 [.ref 163] (am_SH, am_u I 163 4 ((I 163 4) + 1), J, Pf) (am_af sc d 235 78 [some (.ref 163), some (.int 4)] [.ref 163] [] (am_SH, am_u I 163 4 ((I 163 4) + 1), J, Pf) k n true P)) else (am_mth d 195 [.ref 163] (am_SH, I, J, Pf) (am_af sc d 235 52 [some (.ref 163), l1] [.ref 163] [] (am_SH, I, J, Pf) k n true P)))) : am_go sc d 235 (42, [some (.ref 163), l1], [.int s0], (am_SH, I, J, Pf), k, n) P := by
  refine am_s_bipush am_cb42 dc235_2.1.2.2 ?_
  refine am_s_ic_ne dc235_2.2.1.1 rfl (fun c1 => ?_) (fun c1 => ?_)
  · refine am_s_aload_n rfl dc235_2.2.2.2 ?_
    exact am_s_virtual true dc235_3.1.1.1 rfl (by decide) rfl rfl rfl ((vi_f q c1))
  · refine am_s_iconst am_cc4 dc235_2.2.1.2 ?_
    refine am_s_goto rfl dc235_2.2.2.1 ?_
    refine am_s_istore_n (ls' := [some (.ref 163), some (.int 4)]) rfl rfl dc235_3.2.2.1 ?_
    refine am_s_aload_n rfl dc235_3.2.2.2 ?_
    refine am_s_dup rfl dc235_4.1.1.1 ?_
    refine am_x_getI (x := I 163 4) dc235_4.1.1.2 rfl rfl (Or.inl rfl) rfl ?_
    refine am_s_iconst am_cc1 dc235_4.1.2.1 ?_
    refine am_s_iadd dc235_4.1.2.2 ?_
    refine am_s_putI dc235_4.2.1.1 rfl rfl rfl rfl ?_
    refine am_s_aload_n rfl dc235_4.2.1.2 ?_
    exact am_s_virtual true dc235_4.2.2.1 rfl (by decide) rfl rfl rfl ((vi_t q (Decidable.not_not.mp c1)))
theorem v235_33 {sc : Option (Nat × (Nat → Int32))} {d k n : Nat} {P : am_O → Prop} {I : am_I} {J : am_J} {Pf : am_R} (hp : am_PF Pf) {l1 : Option Value} {s0 : Int32} (q : (if s0 = 37 then (am_mth d 195 [.ref 163] (am_SH, I, J, Pf) (am_af sc d 235 39 [some (.ref 163), l1] [.ref 163] [] (am_SH, I, J, Pf) k n true P)) else (P (.inl none, (am_SH, I, J, Pf), k, n)))) : am_go sc d 235 (33, [some (.ref 163), l1], [.int s0], (am_SH, I, J, Pf), k, n) P := by
  refine am_s_bipush am_cb37 dc235_1.2.2.2 ?_
  refine am_s_ic_ne dc235_2.1.1.1 rfl (fun c1 => ?_) (fun c1 => ?_)
  · exact am_s_return dc235_5.2.2.2 rfl ((vi_f q c1))
  · refine am_s_aload_n rfl dc235_2.1.1.2 ?_
    exact am_s_virtual true dc235_2.1.2.1 rfl (by decide) rfl rfl rfl ((vi_t q (Decidable.not_not.mp c1)))
theorem v235_55 {sc : Option (Nat × (Nat → Int32))} {d k n : Nat} {P : am_O → Prop} {I : am_I} {J : am_J} {Pf : am_R} (hp : am_PF Pf) {l1 : Option Value} {s0 : Int32} (q : (if s0 = 47 then (am_mth d 238 [.ref 163] (am_SH, am_u I 163 4 ((I 163 4) + 1), J, Pf) (am_af sc d 235 78 [some (.ref 163), some (.int 5)] [.ref 163] [] (am_SH, am_u I 163 4 ((I 163 4) + 1), J, Pf) k n true P)) else (am_mth d 238 [.ref 163] (am_SH, am_u I 163 4 ((I 163 4) + 1), J, Pf) (am_af sc d 235 78 [some (.ref 163), some (.int 8)] [.ref 163] [] (am_SH, am_u I 163 4 ((I 163 4) + 1), J, Pf) k n true P)))) : am_go sc d 235 (55, [some (.ref 163), l1], [.int s0], (am_SH, I, J, Pf), k, n) P := by
  refine am_s_bipush am_cb47 dc235_3.1.1.2 ?_
  refine am_s_ic_ne dc235_3.1.2.1 rfl (fun c1 => ?_) (fun c1 => ?_)
  · refine am_s_bipush am_cb8 dc235_3.2.1.2 ?_
    refine am_s_istore_n (ls' := [some (.ref 163), some (.int 8)]) rfl rfl dc235_3.2.2.1 ?_
    refine am_s_aload_n rfl dc235_3.2.2.2 ?_
    refine am_s_dup rfl dc235_4.1.1.1 ?_
    refine am_x_getI (x := I 163 4) dc235_4.1.1.2 rfl rfl (Or.inl rfl) rfl ?_
    refine am_s_iconst am_cc1 dc235_4.1.2.1 ?_
    refine am_s_iadd dc235_4.1.2.2 ?_
    refine am_s_putI dc235_4.2.1.1 rfl rfl rfl rfl ?_
    refine am_s_aload_n rfl dc235_4.2.1.2 ?_
    exact am_s_virtual true dc235_4.2.2.1 rfl (by decide) rfl rfl rfl ((vi_f q c1))
  · refine am_s_iconst am_cc5 dc235_3.1.2.2 ?_
    refine am_s_goto rfl dc235_3.2.1.1 ?_
    refine am_s_istore_n (ls' := [some (.ref 163), some (.int 5)]) rfl rfl dc235_3.2.2.1 ?_
    refine am_s_aload_n rfl dc235_3.2.2.2 ?_
    refine am_s_dup rfl dc235_4.1.1.1 ?_
    refine am_x_getI (x := I 163 4) dc235_4.1.1.2 rfl rfl (Or.inl rfl) rfl ?_
    refine am_s_iconst am_cc1 dc235_4.1.2.1 ?_
    refine am_s_iadd dc235_4.1.2.2 ?_
    refine am_s_putI dc235_4.2.1.1 rfl rfl rfl rfl ?_
    refine am_s_aload_n rfl dc235_4.2.1.2 ?_
    exact am_s_virtual true dc235_4.2.2.1 rfl (by decide) rfl rfl rfl ((vi_t q (Decidable.not_not.mp c1)))
theorem v235_81 {sc : Option (Nat × (Nat → Int32))} {d k n : Nat} {P : am_O → Prop} {I : am_I} {J : am_J} {Pf : am_R} (hp : am_PF Pf) {x1 : Int32} (q : (if (I 163 5) = (-1) then (am_in (I 163 28) 150 = true) ∧ (am_in (I 163 28) 150 = true) ∧ (am_go sc (d + 2) 235 (4, [some (.ref 163), some (.int x1)], [], (am_SH, am_u (am_u (am_u I 172 (Int32.toNatClampNeg (I 163 28)) x1) 173 (Int32.toNatClampNeg (I 163 28)) 0) 163 28 ((I 163 28) + 1), J, Pf), k, n) P) else (am_go sc (d + 2) 235 (4, [some (.ref 163), some (.int x1)], [], (am_SH, I, J, Pf), k, n) P))) : am_go sc (d + 2) 235 (81, [some (.ref 163), some (.int x1)], [], (am_SH, I, J, Pf), k, n) P := by
  refine am_s_aload_n rfl dc235_4.2.2.2 ?_
  refine am_s_iload_n rfl dc235_5.1.1 ?_
  refine am_s_iconst am_cc0 dc235_5.1.2 ?_
  refine am_s_virtual true dc235_5.2.1 rfl (by decide) rfl rfl rfl (am_mth_of rfl rfl ?_)
  refine am_s_aload_n rfl dc232_0.1.1.1 ?_
  refine am_s_virtual true dc232_0.1.1.2 rfl (by decide) rfl rfl rfl (am_mth_of rfl rfl ?_)
  refine am_s_aload_n rfl dc193_0.1.1.1 ?_
  refine am_x_getI (x := I 163 5) dc193_0.1.1.2 rfl rfl (Or.inl rfl) rfl ?_
  refine am_s_iconst am_ccm1 dc193_0.1.2.1 ?_
  refine am_s_ic_ne dc193_0.1.2.2 rfl (fun c1 => ?_) (fun c1 => ?_)
  · refine am_s_iconst am_cc0 dc193_0.2.2.1 ?_
    refine am_s_zreturn dc193_0.2.2.2 rfl (by decide) (am_bkI ?_)
    refine am_s_if_ne dc232_0.1.2.1 rfl (fun z => absurd z (by decide)) (fun _ => ?_)
    refine am_s_return dc232_0.1.2.2 rfl (am_bkV ?_)
    refine am_s_goto rfl dc235_5.2.2.1 ?_
    exact (vi_f q c1)
  · refine am_s_iconst am_cc1 dc193_0.2.1.1 ?_
    refine am_s_goto rfl dc193_0.2.1.2 ?_
    refine am_s_zreturn dc193_0.2.2.2 rfl (by decide) (am_bkI ?_)
    refine am_s_if_ne dc232_0.1.2.1 rfl (fun _ => ?_) (fun z => absurd z (by decide))
    refine am_s_aload_n rfl dc232_0.2.1.1 ?_
    refine am_s_getR (r := 172) dc232_0.2.1.2 rfl rfl rfl (hp _ _ _ rfl) ?_
    refine am_s_aload_n rfl dc232_0.2.2.1 ?_
    refine am_x_getI (x := I 163 28) dc232_0.2.2.2 rfl rfl (Or.inl rfl) rfl ?_
    refine am_s_iload_n rfl dc232_1.1.1.1 ?_
    refine am_s_iastore dc232_1.1.1.2 rfl ((vi_t q (Decidable.not_not.mp c1)).1) rfl ?_
    refine am_s_aload_n rfl dc232_1.1.2.1 ?_
    refine am_s_getR (r := 173) dc232_1.1.2.2 rfl rfl rfl (hp _ _ _ rfl) ?_
    refine am_s_aload_n rfl dc232_1.2.1.1 ?_
    refine am_x_getI (x := I 163 28) dc232_1.2.1.2 rfl rfl (Or.inl rfl) rfl ?_
    refine am_s_iload_n rfl dc232_1.2.2.1 ?_
    refine am_s_iastore dc232_1.2.2.2 rfl ((vi_t q (Decidable.not_not.mp c1)).2.1) rfl ?_
    refine am_s_aload_n rfl dc232_2.1.1 ?_
    refine am_s_dup rfl dc232_2.1.2.1 ?_
    refine am_x_getI (x := I 163 28) dc232_2.1.2.2 rfl rfl (Or.inl rfl) rfl ?_
    refine am_s_iconst am_cc1 dc232_2.2.1.1 ?_
    refine am_s_iadd dc232_2.2.1.2 ?_
    refine am_s_putI dc232_2.2.2.1 rfl rfl rfl rfl ?_
    refine am_s_return dc232_2.2.2.2 rfl (am_bkV ?_)
    refine am_s_goto rfl dc235_5.2.2.1 ?_
    exact (vi_t q (Decidable.not_not.mp c1)).2.2
-- readTwo (II)V
theorem v236_0 {sc : Option (Nat × (Nat → Int32))} {d k n : Nat} {P : am_O → Prop} {I : am_I} {J : am_J} {Pf : am_R} (hp : am_PF Pf) {x1 : Int32} {x2 : Int32} (q : (if (I 163 5) = (-1) then (if (I 163 7) = 6 then (if (I 163 4) = (-1) then (am_mth (d + 2) 202 [.ref 163, .int 91] (am_SH, am_u (am_u (am_u (am_u I 163 5 (I 163 4)) 163 6 3) 163 4 ((I 163 4) + x1)) 163 7 ((I 163 7) + 1), J, Pf) (am_af sc (d + 2) 236 8 [some (.ref 163), some (.int x1), some (.int x2)] [.int 91, .ref 163] [] (am_SH, am_u (am_u (am_u (am_u I 163 5 (I 163 4)) 163 6 3) 163 4 ((I 163 4) + x1)) 163 7 ((I 163 7) + 1), J, Pf) k n true P)) else (am_mth (d + 2) 202 [.ref 163, .int 91] (am_SH, am_u (am_u (am_u I 163 5 (I 163 4)) 163 6 3) 163 7 ((I 163 7) + 1), J, Pf) (am_af sc (d + 2) 236 8 [some (.ref 163), some (.int x1), some (.int x2)] [.int 91, .ref 163] [] (am_SH, am_u (am_u (am_u I 163 5 (I 163 4)) 163 6 3) 163 7 ((I 163 7) + 1), J, Pf) k n true P))) else (am_mth (d + 2) 202 [.ref 163, .int 91] (am_SH, am_u (am_u I 163 4 ((I 163 4) + x1)) 163 7 ((I 163 7) + 1), J, Pf) (am_af sc (d + 2) 236 8 [some (.ref 163), some (.int x1), some (.int x2)] [.int 91, .ref 163] [] (am_SH, am_u (am_u I 163 4 ((I 163 4) + x1)) 163 7 ((I 163 7) + 1), J, Pf) k n true P))) else (am_mth (d + 2) 202 [.ref 163, .int 91] (am_SH, am_u I 163 7 ((I 163 7) + 1), J, Pf) (am_af sc (d + 2) 236 8 [some (.ref 163), some (.int x1), some (.int x2)] [.int 91, .ref 163] [] (am_SH, am_u I 163 7 ((I 163 7) + 1), J, Pf) k n true P)))) : am_go sc (d + 2) 236 (0, [some (.ref 163), some (.int x1), some (.int x2)], [], (am_SH, I, J, Pf), k, n) P := by
  refine am_s_aload_n rfl dc236_0.1.1.1 ?_
  refine am_s_iload_n rfl dc236_0.1.1.2 ?_
  refine am_s_virtual true dc236_0.1.2.1 rfl (by decide) rfl rfl rfl (am_mth_of rfl rfl ?_)
  refine am_s_aload_n rfl dc233_0.1.1.1 ?_
  refine am_s_virtual true dc233_0.1.1.2 rfl (by decide) rfl rfl rfl (am_mth_of rfl rfl ?_)
  refine am_s_aload_n rfl dc193_0.1.1.1 ?_
  refine am_x_getI (x := I 163 5) dc193_0.1.1.2 rfl rfl (Or.inl rfl) rfl ?_
  refine am_s_iconst am_ccm1 dc193_0.1.2.1 ?_
  refine am_s_ic_ne dc193_0.1.2.2 rfl (fun c1 => ?_) (fun c1 => ?_)
  · refine am_s_iconst am_cc0 dc193_0.2.2.1 ?_
    refine am_s_zreturn dc193_0.2.2.2 rfl (by decide) (am_bkI ?_)
    refine am_s_if_eq dc233_0.1.2.1 rfl (fun _ => ?_) (fun z => absurd z (by decide))
    refine am_s_aload_n rfl dc233_1.2.1.1 ?_
    refine am_s_virtual true dc233_1.2.1.2 rfl (by decide) rfl rfl rfl (am_mth_of rfl rfl ?_)
    refine am_s_aload_n rfl dc193_0.1.1.1 ?_
    refine am_x_getI (x := I 163 5) dc193_0.1.1.2 rfl rfl (Or.inl rfl) rfl ?_
    refine am_s_iconst am_ccm1 dc193_0.1.2.1 ?_
    refine am_s_ic_ne dc193_0.1.2.2 rfl (fun _ => ?_) (fun z => absurd c1 z)
    refine am_s_iconst am_cc0 dc193_0.2.2.1 ?_
    refine am_s_zreturn dc193_0.2.2.2 rfl (by decide) (am_bkI ?_)
    refine am_s_if_eq dc233_1.2.2.1 rfl (fun _ => ?_) (fun z => absurd z (by decide))
    refine am_s_aload_n rfl dc233_2.2.1.2 ?_
    refine am_s_dup rfl dc233_2.2.2.1 ?_
    refine am_x_getI (x := I 163 7) dc233_2.2.2.2 rfl rfl (Or.inl rfl) rfl ?_
    refine am_s_iconst am_cc1 dc233_3.1.1 ?_
    refine am_s_iadd dc233_3.1.2 ?_
    refine am_s_putI dc233_3.2.1 rfl rfl rfl rfl ?_
    refine am_s_return dc233_3.2.2 rfl (am_bkV ?_)
    refine am_s_aload_n rfl dc236_0.1.2.2 ?_
    refine am_s_bipush am_cb91 dc236_0.2.1.1 ?_
    exact am_s_virtual true dc236_0.2.1.2 rfl (by decide) rfl rfl rfl ((vi_f q c1))
  · refine am_s_iconst am_cc1 dc193_0.2.1.1 ?_
    refine am_s_goto rfl dc193_0.2.1.2 ?_
    refine am_s_zreturn dc193_0.2.2.2 rfl (by decide) (am_bkI ?_)
    refine am_s_if_eq dc233_0.1.2.1 rfl (fun z => absurd z (by decide)) (fun _ => ?_)
    refine am_s_aload_n rfl dc233_0.1.2.2 ?_
    refine am_x_getI (x := I 163 7) dc233_0.2.1.1 rfl rfl (Or.inl rfl) rfl ?_
    refine am_s_bipush am_cb6 dc233_0.2.1.2 ?_
    refine am_s_ic_ne dc233_0.2.2.1 rfl (fun c2 => ?_) (fun c2 => ?_)
    · refine am_s_aload_n rfl dc233_1.2.1.1 ?_
      refine am_s_virtual true dc233_1.2.1.2 rfl (by decide) rfl rfl rfl (am_mth_of rfl rfl ?_)
      refine am_s_aload_n rfl dc193_0.1.1.1 ?_
      refine am_x_getI (x := I 163 5) dc193_0.1.1.2 rfl rfl (Or.inl rfl) rfl ?_
      refine am_s_iconst am_ccm1 dc193_0.1.2.1 ?_
      refine am_s_ic_ne dc193_0.1.2.2 rfl (fun z => absurd z c1) (fun _ => ?_)
      refine am_s_iconst am_cc1 dc193_0.2.1.1 ?_
      refine am_s_goto rfl dc193_0.2.1.2 ?_
      refine am_s_zreturn dc193_0.2.2.2 rfl (by decide) (am_bkI ?_)
      refine am_s_if_eq dc233_1.2.2.1 rfl (fun z => absurd z (by decide)) (fun _ => ?_)
      refine am_s_aload_n rfl dc233_1.2.2.2 ?_
      refine am_s_dup rfl dc233_2.1.1.1 ?_
      refine am_x_getI (x := I 163 4) dc233_2.1.1.2 rfl rfl (Or.inl rfl) rfl ?_
      refine am_s_iload_n rfl dc233_2.1.2.1 ?_
      refine am_s_iadd dc233_2.1.2.2 ?_
      refine am_s_putI dc233_2.2.1.1 rfl rfl rfl rfl ?_
      refine am_s_aload_n rfl dc233_2.2.1.2 ?_
      refine am_s_dup rfl dc233_2.2.2.1 ?_
      refine am_x_getI (x := I 163 7) dc233_2.2.2.2 rfl rfl (Or.inl rfl) rfl ?_
      refine am_s_iconst am_cc1 dc233_3.1.1 ?_
      refine am_s_iadd dc233_3.1.2 ?_
      refine am_s_putI dc233_3.2.1 rfl rfl rfl rfl ?_
      refine am_s_return dc233_3.2.2 rfl (am_bkV ?_)
      refine am_s_aload_n rfl dc236_0.1.2.2 ?_
      refine am_s_bipush am_cb91 dc236_0.2.1.1 ?_
      exact am_s_virtual true dc236_0.2.1.2 rfl (by decide) rfl rfl rfl ((vi_f (vi_t q (Decidable.not_not.mp c1)) c2))
    · refine am_s_aload_n rfl dc233_0.2.2.2 ?_
      refine am_s_iconst am_cc3 dc233_1.1.1.1 ?_
      refine am_s_aload_n rfl dc233_1.1.1.2 ?_
      refine am_x_getI (x := I 163 4) dc233_1.1.2.1 rfl rfl (Or.inl rfl) rfl ?_
      refine am_s_virtual true dc233_1.1.2.2 rfl (by decide) rfl rfl rfl (am_mth_of rfl rfl ?_)
      refine am_s_aload_n rfl dc194_0.1.1.1 ?_
      refine am_x_getI (x := I 163 5) dc194_0.1.1.2 rfl rfl (Or.inl rfl) rfl ?_
      refine am_s_iconst am_ccm1 dc194_0.1.2.1 ?_
      refine am_s_ic_eq dc194_0.1.2.2 rfl (fun _ => ?_) (fun z => absurd z c1)
      refine am_s_aload_n rfl dc194_0.2.1.2 ?_
      refine am_s_iload_n rfl dc194_0.2.2.1 ?_
      refine am_s_putI dc194_0.2.2.2 rfl rfl rfl rfl ?_
      refine am_s_aload_n rfl dc194_1.1.1 ?_
      refine am_s_iload_n rfl dc194_1.1.2 ?_
      refine am_s_putI dc194_1.2.1 rfl rfl rfl rfl ?_
      refine am_s_return dc194_1.2.2 rfl (am_bkV ?_)
      refine am_s_aload_n rfl dc233_1.2.1.1 ?_
      refine am_s_virtual true dc233_1.2.1.2 rfl (by decide) rfl rfl rfl (am_mth_of rfl rfl ?_)
      refine am_s_aload_n rfl dc193_0.1.1.1 ?_
      refine am_x_getI (x := I 163 4) dc193_0.1.1.2 rfl rfl (Or.inl rfl) rfl ?_
      refine am_s_iconst am_ccm1 dc193_0.1.2.1 ?_
      refine am_s_ic_ne dc193_0.1.2.2 rfl (fun c3 => ?_) (fun c3 => ?_)
      · refine am_s_iconst am_cc0 dc193_0.2.2.1 ?_
        refine am_s_zreturn dc193_0.2.2.2 rfl (by decide) (am_bkI ?_)
        refine am_s_if_eq dc233_1.2.2.1 rfl (fun _ => ?_) (fun z => absurd z (by decide))
        refine am_s_aload_n rfl dc233_2.2.1.2 ?_
        refine am_s_dup rfl dc233_2.2.2.1 ?_
        refine am_x_getI (x := I 163 7) dc233_2.2.2.2 rfl rfl (Or.inl rfl) rfl ?_
        refine am_s_iconst am_cc1 dc233_3.1.1 ?_
        refine am_s_iadd dc233_3.1.2 ?_
        refine am_s_putI dc233_3.2.1 rfl rfl rfl rfl ?_
        refine am_s_return dc233_3.2.2 rfl (am_bkV ?_)
        refine am_s_aload_n rfl dc236_0.1.2.2 ?_
        refine am_s_bipush am_cb91 dc236_0.2.1.1 ?_
        exact am_s_virtual true dc236_0.2.1.2 rfl (by decide) rfl rfl rfl ((vi_f (vi_t (vi_t q (Decidable.not_not.mp c1)) (Decidable.not_not.mp c2)) c3))
      · refine am_s_iconst am_cc1 dc193_0.2.1.1 ?_
        refine am_s_goto rfl dc193_0.2.1.2 ?_
        refine am_s_zreturn dc193_0.2.2.2 rfl (by decide) (am_bkI ?_)
        refine am_s_if_eq dc233_1.2.2.1 rfl (fun z => absurd z (by decide)) (fun _ => ?_)
        refine am_s_aload_n rfl dc233_1.2.2.2 ?_
        refine am_s_dup rfl dc233_2.1.1.1 ?_
        refine am_x_getI (x := I 163 4) dc233_2.1.1.2 rfl rfl (Or.inl rfl) rfl ?_
        refine am_s_iload_n rfl dc233_2.1.2.1 ?_
        refine am_s_iadd dc233_2.1.2.2 ?_
        refine am_s_putI dc233_2.2.1.1 rfl rfl rfl rfl ?_
        refine am_s_aload_n rfl dc233_2.2.1.2 ?_
        refine am_s_dup rfl dc233_2.2.2.1 ?_
        refine am_x_getI (x := I 163 7) dc233_2.2.2.2 rfl rfl (Or.inl rfl) rfl ?_
        refine am_s_iconst am_cc1 dc233_3.1.1 ?_
        refine am_s_iadd dc233_3.1.2 ?_
        refine am_s_putI dc233_3.2.1 rfl rfl rfl rfl ?_
        refine am_s_return dc233_3.2.2 rfl (am_bkV ?_)
        refine am_s_aload_n rfl dc236_0.1.2.2 ?_
        refine am_s_bipush am_cb91 dc236_0.2.1.1 ?_
        exact am_s_virtual true dc236_0.2.1.2 rfl (by decide) rfl rfl rfl ((vi_t (vi_t (vi_t q (Decidable.not_not.mp c1)) (Decidable.not_not.mp c2)) (Decidable.not_not.mp c3)))
theorem v236_11 {sc : Option (Nat × (Nat → Int32))} {d k n : Nat} {P : am_O → Prop} {I : am_I} {J : am_J} {Pf : am_R} (hp : am_PF Pf) {l1 : Option Value} {x2 : Int32} (q : (am_mth d 234 [.ref 163] (am_SH, I, J, Pf) (am_af sc d 236 12 [some (.ref 163), l1, some (.int x2)] [.ref 163] [] (am_SH, I, J, Pf) k n true P))) : am_go sc d 236 (11, [some (.ref 163), l1, some (.int x2)], [], (am_SH, I, J, Pf), k, n) P := by
  refine am_s_aload_n rfl dc236_0.2.2.1 ?_
  exact am_s_virtual true dc236_0.2.2.2 rfl (by decide) rfl rfl rfl (q)
theorem v236_15 {sc : Option (Nat × (Nat → Int32))} {d k n : Nat} {P : am_O → Prop} {I : am_I} {J : am_J} {Pf : am_R} (hp : am_PF Pf) {l1 : Option Value} {x2 : Int32} (q : (am_mth d 202 [.ref 163, .int 44] (am_SH, I, J, Pf) (am_af sc d 236 18 [some (.ref 163), l1, some (.int x2)] [.int 44, .ref 163] [] (am_SH, I, J, Pf) k n true P))) : am_go sc d 236 (15, [some (.ref 163), l1, some (.int x2)], [], (am_SH, I, J, Pf), k, n) P := by
  refine am_s_aload_n rfl dc236_1.1.1.1 ?_
  refine am_s_bipush am_cb44 dc236_1.1.1.2 ?_
  exact am_s_virtual true dc236_1.1.2.1 rfl (by decide) rfl rfl rfl (q)
theorem v236_21 {sc : Option (Nat × (Nat → Int32))} {d k n : Nat} {P : am_O → Prop} {I : am_I} {J : am_J} {Pf : am_R} (hp : am_PF Pf) {l1 : Option Value} {x2 : Int32} (q : (am_mth d 234 [.ref 163] (am_SH, I, J, Pf) (am_af sc d 236 22 [some (.ref 163), l1, some (.int x2)] [.ref 163] [] (am_SH, I, J, Pf) k n true P))) : am_go sc d 236 (21, [some (.ref 163), l1, some (.int x2)], [], (am_SH, I, J, Pf), k, n) P := by
  refine am_s_aload_n rfl dc236_1.1.2.2 ?_
  exact am_s_virtual true dc236_1.2.1.1 rfl (by decide) rfl rfl rfl (q)
theorem v236_25 {sc : Option (Nat × (Nat → Int32))} {d k n : Nat} {P : am_O → Prop} {I : am_I} {J : am_J} {Pf : am_R} (hp : am_PF Pf) {l1 : Option Value} {x2 : Int32} (q : (am_mth d 202 [.ref 163, .int 93] (am_SH, I, J, Pf) (am_af sc d 236 28 [some (.ref 163), l1, some (.int x2)] [.int 93, .ref 163] [] (am_SH, I, J, Pf) k n true P))) : am_go sc d 236 (25, [some (.ref 163), l1, some (.int x2)], [], (am_SH, I, J, Pf), k, n) P := by
  refine am_s_aload_n rfl dc236_1.2.1.2 ?_
  refine am_s_bipush am_cb93 dc236_1.2.2.1 ?_
  exact am_s_virtual true dc236_1.2.2.2 rfl (by decide) rfl rfl rfl (q)
theorem v236_31 {sc : Option (Nat × (Nat → Int32))} {d k n : Nat} {P : am_O → Prop} {I : am_I} {J : am_J} {Pf : am_R} (hp : am_PF Pf) {l1 : Option Value} {x2 : Int32} (q : (if (I 163 5) = (-1) then (am_in (I 163 28) 150 = true) ∧ (am_in (I 163 28) 150 = true) ∧ (P (.inl none, (am_SH, am_u (am_u (am_u (am_u I 163 7 ((I 163 7) - 1)) 172 (Int32.toNatClampNeg (I 163 28)) x2) 173 (Int32.toNatClampNeg (I 163 28)) 0) 163 28 ((I 163 28) + 1), J, Pf), k, n)) else (P (.inl none, (am_SH, am_u I 163 7 ((I 163 7) - 1), J, Pf), k, n)))) : am_go sc (d + 2) 236 (31, [some (.ref 163), l1, some (.int x2)], [], (am_SH, I, J, Pf), k, n) P := by
  refine am_s_aload_n rfl dc236_2.1.1.1 ?_
  refine am_s_dup rfl dc236_2.1.1.2 ?_
  refine am_x_getI (x := I 163 7) dc236_2.1.2.1 rfl rfl (Or.inl rfl) rfl ?_
  refine am_s_iconst am_cc1 dc236_2.1.2.2 ?_
  refine am_s_isub dc236_2.2.1.1 ?_
  refine am_s_putI dc236_2.2.1.2 rfl rfl rfl rfl ?_
  refine am_s_aload_n rfl dc236_2.2.2.1 ?_
  refine am_s_iload_n rfl dc236_2.2.2.2 ?_
  refine am_s_iconst am_cc0 dc236_3.1 ?_
  refine am_s_virtual true dc236_3.2.1 rfl (by decide) rfl rfl rfl (am_mth_of rfl rfl ?_)
  refine am_s_aload_n rfl dc232_0.1.1.1 ?_
  refine am_s_virtual true dc232_0.1.1.2 rfl (by decide) rfl rfl rfl (am_mth_of rfl rfl ?_)
  refine am_s_aload_n rfl dc193_0.1.1.1 ?_
  refine am_x_getI (x := I 163 5) dc193_0.1.1.2 rfl rfl (Or.inl rfl) rfl ?_
  refine am_s_iconst am_ccm1 dc193_0.1.2.1 ?_
  refine am_s_ic_ne dc193_0.1.2.2 rfl (fun c1 => ?_) (fun c1 => ?_)
  · refine am_s_iconst am_cc0 dc193_0.2.2.1 ?_
    refine am_s_zreturn dc193_0.2.2.2 rfl (by decide) (am_bkI ?_)
    refine am_s_if_ne dc232_0.1.2.1 rfl (fun z => absurd z (by decide)) (fun _ => ?_)
    refine am_s_return dc232_0.1.2.2 rfl (am_bkV ?_)
    exact am_s_return dc236_3.2.2 rfl ((vi_f q c1))
  · refine am_s_iconst am_cc1 dc193_0.2.1.1 ?_
    refine am_s_goto rfl dc193_0.2.1.2 ?_
    refine am_s_zreturn dc193_0.2.2.2 rfl (by decide) (am_bkI ?_)
    refine am_s_if_ne dc232_0.1.2.1 rfl (fun _ => ?_) (fun z => absurd z (by decide))
    refine am_s_aload_n rfl dc232_0.2.1.1 ?_
    refine am_s_getR (r := 172) dc232_0.2.1.2 rfl rfl rfl (hp _ _ _ rfl) ?_
    refine am_s_aload_n rfl dc232_0.2.2.1 ?_
    refine am_x_getI (x := I 163 28) dc232_0.2.2.2 rfl rfl (Or.inl rfl) rfl ?_
    refine am_s_iload_n rfl dc232_1.1.1.1 ?_
    refine am_s_iastore dc232_1.1.1.2 rfl ((vi_t q (Decidable.not_not.mp c1)).1) rfl ?_
    refine am_s_aload_n rfl dc232_1.1.2.1 ?_
    refine am_s_getR (r := 173) dc232_1.1.2.2 rfl rfl rfl (hp _ _ _ rfl) ?_
    refine am_s_aload_n rfl dc232_1.2.1.1 ?_
    refine am_x_getI (x := I 163 28) dc232_1.2.1.2 rfl rfl (Or.inl rfl) rfl ?_
    refine am_s_iload_n rfl dc232_1.2.2.1 ?_
    refine am_s_iastore dc232_1.2.2.2 rfl ((vi_t q (Decidable.not_not.mp c1)).2.1) rfl ?_
    refine am_s_aload_n rfl dc232_2.1.1 ?_
    refine am_s_dup rfl dc232_2.1.2.1 ?_
    refine am_x_getI (x := I 163 28) dc232_2.1.2.2 rfl rfl (Or.inl rfl) rfl ?_
    refine am_s_iconst am_cc1 dc232_2.2.1.1 ?_
    refine am_s_iadd dc232_2.2.1.2 ?_
    refine am_s_putI dc232_2.2.2.1 rfl rfl rfl rfl ?_
    refine am_s_return dc232_2.2.2.2 rfl (am_bkV ?_)
    exact am_s_return dc236_3.2.2 rfl ((vi_t q (Decidable.not_not.mp c1)).2.2)
-- factHere ()I
theorem v237_0 {sc : Option (Nat × (Nat → Int32))} {d k n : Nat} {P : am_O → Prop} {I : am_I} {J : am_J} {Pf : am_R} (hp : am_PF Pf) {l1 : Option Value} (q : (am_mth d 198 [.ref 163] (am_SH, I, J, Pf) (am_af sc d 237 1 [some (.ref 163), l1] [.ref 163] [] (am_SH, I, J, Pf) k n true P))) : am_go sc d 237 (0, [some (.ref 163), l1], [], (am_SH, I, J, Pf), k, n) P := by
  refine am_s_aload_n rfl dc237_0.1.1.1 ?_
  exact am_s_virtual true dc237_0.1.1.2 rfl (by decide) rfl rfl rfl (q)
theorem v237_4 {sc : Option (Nat × (Nat → Int32))} {d k n : Nat} {P : am_O → Prop} {I : am_I} {J : am_J} {Pf : am_R} (hp : am_PF Pf) {l0 : Option Value} {l1 : Option Value} {s0 : Int32} (hl0 : am_k1 l0 = true) (q : (am_mth d 199 [.retAddr 11] (am_SH, I, J, Pf) (am_af sc d 237 9 [l0, some (.int s0)] [.retAddr 11, .int s0] [.int s0] (am_SH, I, J, Pf) k n false P))) : am_go sc d 237 (4, [l0, l1], [.int s0], (am_SH, I, J, Pf), k, n) P := by
  refine am_s_istore_n (ls' := [l0, some (.int s0)]) rfl (am_set1_k (am_kill_x (j := 0) rfl hl0) rfl) dc237_0.1.2.1 ?_
  refine am_s_iload_n rfl dc237_0.1.2.2 ?_
  refine am_s_ldcwT (x := 11) dc237_0.2.1.1 rfl rfl ?_
  exact am_s_static dc237_0.2.1.2 rfl rfl rfl (q)
theorem v237_12 {sc : Option (Nat × (Nat → Int32))} {d k n : Nat} {P : am_O → Prop} {I : am_I} {J : am_J} {Pf : am_R} (hp : am_PF Pf) {l0 : Option Value} {x1 : Int32} {s0 : Int32} {s1 : Int32} (q : (if s0 = s1 then (P (.inl (some (.int 0)), (am_SH, I, J, Pf), k, n)) else (am_mth d 199 [.retAddr 12] (am_SH, I, J, Pf) (am_af sc d 237 23 [l0, some (.int x1)] [.retAddr 12, .int x1] [.int x1] (am_SH, I, J, Pf) k n false P)))) : am_go sc d 237 (12, [l0, some (.int x1)], [.int s1, .int s0], (am_SH, I, J, Pf), k, n) P := by
  refine am_s_ic_ne dc237_0.2.2.1 rfl (fun c1 => ?_) (fun c1 => ?_)
  · refine am_s_iload_n rfl dc237_1.1.1.2 ?_
    refine am_s_ldcwT (x := 12) dc237_1.1.2.1 rfl rfl ?_
    exact am_s_static dc237_1.1.2.2 rfl rfl rfl ((vi_f q c1))
  · refine am_s_iconst am_cc0 dc237_0.2.2.2 ?_
    refine am_s_goto rfl dc237_1.1.1.1 ?_
    exact am_s_ireturn dc237_5 rfl ((vi_t q (Decidable.not_not.mp c1)))
theorem v237_26 {sc : Option (Nat × (Nat → Int32))} {d k n : Nat} {P : am_O → Prop} {I : am_I} {J : am_J} {Pf : am_R} (hp : am_PF Pf) {l0 : Option Value} {x1 : Int32} {s0 : Int32} {s1 : Int32} (q : (if s0 = s1 then (P (.inl (some (.int 1)), (am_SH, I, J, Pf), k, n)) else (am_mth d 199 [.retAddr 13] (am_SH, I, J, Pf) (am_af sc d 237 37 [l0, some (.int x1)] [.retAddr 13, .int x1] [.int x1] (am_SH, I, J, Pf) k n false P)))) : am_go sc d 237 (26, [l0, some (.int x1)], [.int s1, .int s0], (am_SH, I, J, Pf), k, n) P := by
  refine am_s_ic_ne dc237_1.2.1.1 rfl (fun c1 => ?_) (fun c1 => ?_)
  · refine am_s_iload_n rfl dc237_1.2.2.2 ?_
    refine am_s_ldcwT (x := 13) dc237_2.1.1.1 rfl rfl ?_
    exact am_s_static dc237_2.1.1.2 rfl rfl rfl ((vi_f q c1))
  · refine am_s_iconst am_cc1 dc237_1.2.1.2 ?_
    refine am_s_goto rfl dc237_1.2.2.1 ?_
    exact am_s_ireturn dc237_5 rfl ((vi_t q (Decidable.not_not.mp c1)))
theorem v237_40 {sc : Option (Nat × (Nat → Int32))} {d k n : Nat} {P : am_O → Prop} {I : am_I} {J : am_J} {Pf : am_R} (hp : am_PF Pf) {l0 : Option Value} {x1 : Int32} {s0 : Int32} {s1 : Int32} (q : (if s0 = s1 then (P (.inl (some (.int 2)), (am_SH, I, J, Pf), k, n)) else (am_mth d 199 [.retAddr 14] (am_SH, I, J, Pf) (am_af sc d 237 51 [l0, some (.int x1)] [.retAddr 14, .int x1] [.int x1] (am_SH, I, J, Pf) k n false P)))) : am_go sc d 237 (40, [l0, some (.int x1)], [.int s1, .int s0], (am_SH, I, J, Pf), k, n) P := by
  refine am_s_ic_ne dc237_2.1.2.1 rfl (fun c1 => ?_) (fun c1 => ?_)
  · refine am_s_iload_n rfl dc237_2.2.1.2 ?_
    refine am_s_ldcwT (x := 14) dc237_2.2.2.1 rfl rfl ?_
    exact am_s_static dc237_2.2.2.2 rfl rfl rfl ((vi_f q c1))
  · refine am_s_iconst am_cc2 dc237_2.1.2.2 ?_
    refine am_s_goto rfl dc237_2.2.1.1 ?_
    exact am_s_ireturn dc237_5 rfl ((vi_t q (Decidable.not_not.mp c1)))
theorem v237_54 {sc : Option (Nat × (Nat → Int32))} {d k n : Nat} {P : am_O → Prop} {I : am_I} {J : am_J} {Pf : am_R} (hp : am_PF Pf) {l0 : Option Value} {x1 : Int32} {s0 : Int32} {s1 : Int32} (q : (if s0 = s1 then (P (.inl (some (.int 3)), (am_SH, I, J, Pf), k, n)) else (am_mth d 199 [.retAddr 15] (am_SH, I, J, Pf) (am_af sc d 237 65 [l0, some (.int x1)] [.retAddr 15, .int x1] [.int x1] (am_SH, I, J, Pf) k n false P)))) : am_go sc d 237 (54, [l0, some (.int x1)], [.int s1, .int s0], (am_SH, I, J, Pf), k, n) P := by
  refine am_s_ic_ne dc237_3.1.1.1 rfl (fun c1 => ?_) (fun c1 => ?_)
  · refine am_s_iload_n rfl dc237_3.1.2.2 ?_
    refine am_s_ldcwT (x := 15) dc237_3.2.1.1 rfl rfl ?_
    exact am_s_static dc237_3.2.1.2 rfl rfl rfl ((vi_f q c1))
  · refine am_s_iconst am_cc3 dc237_3.1.1.2 ?_
    refine am_s_goto rfl dc237_3.1.2.1 ?_
    exact am_s_ireturn dc237_5 rfl ((vi_t q (Decidable.not_not.mp c1)))
theorem v237_68 {sc : Option (Nat × (Nat → Int32))} {d k n : Nat} {P : am_O → Prop} {I : am_I} {J : am_J} {Pf : am_R} (hp : am_PF Pf) {l0 : Option Value} {x1 : Int32} {s0 : Int32} {s1 : Int32} (q : (if s0 = s1 then (P (.inl (some (.int 4)), (am_SH, I, J, Pf), k, n)) else (am_mth d 199 [.retAddr 16] (am_SH, I, J, Pf) (am_af sc d 237 79 [l0, some (.int x1)] [.retAddr 16, .int x1] [.int x1] (am_SH, I, J, Pf) k n false P)))) : am_go sc d 237 (68, [l0, some (.int x1)], [.int s1, .int s0], (am_SH, I, J, Pf), k, n) P := by
  refine am_s_ic_ne dc237_3.2.2.1 rfl (fun c1 => ?_) (fun c1 => ?_)
  · refine am_s_iload_n rfl dc237_4.1.1.2 ?_
    refine am_s_ldcwT (x := 16) dc237_4.1.2.1 rfl rfl ?_
    exact am_s_static dc237_4.1.2.2 rfl rfl rfl ((vi_f q c1))
  · refine am_s_iconst am_cc4 dc237_3.2.2.2 ?_
    refine am_s_goto rfl dc237_4.1.1.1 ?_
    exact am_s_ireturn dc237_5 rfl ((vi_t q (Decidable.not_not.mp c1)))
theorem v237_82 {sc : Option (Nat × (Nat → Int32))} {d k n : Nat} {P : am_O → Prop} {I : am_I} {J : am_J} {Pf : am_R} (hp : am_PF Pf) {l0 : Option Value} {l1 : Option Value} {s0 : Int32} {s1 : Int32} (q : (if s0 = s1 then (P (.inl (some (.int 5)), (am_SH, I, J, Pf), k, n)) else (P (.inl (some (.int (-1))), (am_SH, I, J, Pf), k, n)))) : am_go sc d 237 (82, [l0, l1], [.int s1, .int s0], (am_SH, I, J, Pf), k, n) P := by
  refine am_s_ic_ne dc237_4.2.1.1 rfl (fun c1 => ?_) (fun c1 => ?_)
  · refine am_s_iconst am_ccm1 dc237_4.2.2.2 ?_
    exact am_s_ireturn dc237_5 rfl ((vi_f q c1))
  · refine am_s_iconst am_cc5 dc237_4.2.1.2 ?_
    refine am_s_goto rfl dc237_4.2.2.1 ?_
    exact am_s_ireturn dc237_5 rfl ((vi_t q (Decidable.not_not.mp c1)))
-- readUnit ()V
theorem v238_0 {sc : Option (Nat × (Nat → Int32))} {d k n : Nat} {P : am_O → Prop} {I : am_I} {J : am_J} {Pf : am_R} (hp : am_PF Pf) {l1 : Option Value} (q : (if (I 163 5) = (-1) then (am_mth (d + 1) 195 [.ref 163] (am_SH, I, J, Pf) (am_af sc (d + 1) 238 9 [some (.ref 163), l1] [.ref 163] [] (am_SH, I, J, Pf) k n true P)) else (P (.inl none, (am_SH, I, J, Pf), k, n)))) : am_go sc (d + 1) 238 (0, [some (.ref 163), l1], [], (am_SH, I, J, Pf), k, n) P := by
  refine am_s_aload_n rfl dc238_0.1.1.1 ?_
  refine am_s_virtual true dc238_0.1.1.2 rfl (by decide) rfl rfl rfl (am_mth_of rfl rfl ?_)
  refine am_s_aload_n rfl dc193_0.1.1.1 ?_
  refine am_x_getI (x := I 163 5) dc193_0.1.1.2 rfl rfl (Or.inl rfl) rfl ?_
  refine am_s_iconst am_ccm1 dc193_0.1.2.1 ?_
  refine am_s_ic_ne dc193_0.1.2.2 rfl (fun c1 => ?_) (fun c1 => ?_)
  · refine am_s_iconst am_cc0 dc193_0.2.2.1 ?_
    refine am_s_zreturn dc193_0.2.2.2 rfl (by decide) (am_bkI ?_)
    refine am_s_if_ne dc238_0.1.2.1 rfl (fun z => absurd z (by decide)) (fun _ => ?_)
    exact am_s_return dc238_0.1.2.2 rfl ((vi_f q c1))
  · refine am_s_iconst am_cc1 dc193_0.2.1.1 ?_
    refine am_s_goto rfl dc193_0.2.1.2 ?_
    refine am_s_zreturn dc193_0.2.2.2 rfl (by decide) (am_bkI ?_)
    refine am_s_if_ne dc238_0.1.2.1 rfl (fun _ => ?_) (fun z => absurd z (by decide))
    refine am_s_aload_n rfl dc238_0.2.1.1 ?_
    exact am_s_virtual true dc238_0.2.1.2 rfl (by decide) rfl rfl rfl ((vi_t q (Decidable.not_not.mp c1)))
theorem v238_12 {sc : Option (Nat × (Nat → Int32))} {d k n : Nat} {P : am_O → Prop} {I : am_I} {J : am_J} {Pf : am_R} (hp : am_PF Pf) {l1 : Option Value} {s0 : Int32} (q : (if s0 = 40 then (if (I 163 5) = (-1) then (if (I 163 7) = 6 then (if (I 163 4) = (-1) then (am_mth (d + 2) 234 [.ref 163] (am_SH, am_u (am_u (am_u (am_u I 163 5 (I 163 4)) 163 6 3) 163 4 ((I 163 4) + 1)) 163 7 ((I 163 7) + 1), J, Pf) (am_af sc (d + 2) 238 23 [some (.ref 163), l1] [.ref 163] [] (am_SH, am_u (am_u (am_u (am_u I 163 5 (I 163 4)) 163 6 3) 163 4 ((I 163 4) + 1)) 163 7 ((I 163 7) + 1), J, Pf) k n true P)) else (am_mth (d + 2) 234 [.ref 163] (am_SH, am_u (am_u (am_u I 163 5 (I 163 4)) 163 6 3) 163 7 ((I 163 7) + 1), J, Pf) (am_af sc (d + 2) 238 23 [some (.ref 163), l1] [.ref 163] [] (am_SH, am_u (am_u (am_u I 163 5 (I 163 4)) 163 6 3) 163 7 ((I 163 7) + 1), J, Pf) k n true P))) else (am_mth (d + 2) 234 [.ref 163] (am_SH, am_u (am_u I 163 4 ((I 163 4) + 1)) 163 7 ((I 163 7) + 1), J, Pf) (am_af sc (d + 2) 238 23 [some (.ref 163), l1] [.ref 163] [] (am_SH, am_u (am_u I 163 4 ((I 163 4) + 1)) 163 7 ((I 163 7) + 1), J, Pf) k n true P))) else (am_mth (d + 2) 234 [.ref 163] (am_SH, am_u I 163 7 ((I 163 7) + 1), J, Pf) (am_af sc (d + 2) 238 23 [some (.ref 163), l1] [.ref 163] [] (am_SH, am_u I 163 7 ((I 163 7) + 1), J, Pf) k n true P))) else (am_mth (d + 2) 195 [.ref 163] (am_SH, I, J, Pf) (am_af sc (d + 2) 238 46 [some (.ref 163), l1] [.ref 163] [] (am_SH, I, J, Pf) k n true P)))) : am_go sc (d + 2) 238 (12, [some (.ref 163), l1], [.int s0], (am_SH, I, J, Pf), k, n) P := by
  refine am_s_bipush am_cb40 dc238_0.2.2.1 ?_
  refine am_s_ic_ne dc238_0.2.2.2 rfl (fun c1 => ?_) (fun c1 => ?_)
  · refine am_s_aload_n rfl dc238_2.2.2.2 ?_
    exact am_s_virtual true dc238_3.1.1.1 rfl (by decide) rfl rfl rfl ((vi_f q c1))
  · refine am_s_aload_n rfl dc238_1.1.1.1 ?_
    refine am_s_iconst am_cc1 dc238_1.1.1.2 ?_
    refine am_s_virtual true dc238_1.1.2.1 rfl (by decide) rfl rfl rfl (am_mth_of rfl rfl ?_)
    refine am_s_aload_n rfl dc233_0.1.1.1 ?_
    refine am_s_virtual true dc233_0.1.1.2 rfl (by decide) rfl rfl rfl (am_mth_of rfl rfl ?_)
    refine am_s_aload_n rfl dc193_0.1.1.1 ?_
    refine am_x_getI (x := I 163 5) dc193_0.1.1.2 rfl rfl (Or.inl rfl) rfl ?_
    refine am_s_iconst am_ccm1 dc193_0.1.2.1 ?_
    refine am_s_ic_ne dc193_0.1.2.2 rfl (fun c2 => ?_) (fun c2 => ?_)
    · refine am_s_iconst am_cc0 dc193_0.2.2.1 ?_
      refine am_s_zreturn dc193_0.2.2.2 rfl (by decide) (am_bkI ?_)
      refine am_s_if_eq dc233_0.1.2.1 rfl (fun _ => ?_) (fun z => absurd z (by decide))
      refine am_s_aload_n rfl dc233_1.2.1.1 ?_
      refine am_s_virtual true dc233_1.2.1.2 rfl (by decide) rfl rfl rfl (am_mth_of rfl rfl ?_)
      refine am_s_aload_n rfl dc193_0.1.1.1 ?_
      refine am_x_getI (x := I 163 5) dc193_0.1.1.2 rfl rfl (Or.inl rfl) rfl ?_
      refine am_s_iconst am_ccm1 dc193_0.1.2.1 ?_
      refine am_s_ic_ne dc193_0.1.2.2 rfl (fun _ => ?_) (fun z => absurd c2 z)
      refine am_s_iconst am_cc0 dc193_0.2.2.1 ?_
      refine am_s_zreturn dc193_0.2.2.2 rfl (by decide) (am_bkI ?_)
      refine am_s_if_eq dc233_1.2.2.1 rfl (fun _ => ?_) (fun z => absurd z (by decide))
      refine am_s_aload_n rfl dc233_2.2.1.2 ?_
      refine am_s_dup rfl dc233_2.2.2.1 ?_
      refine am_x_getI (x := I 163 7) dc233_2.2.2.2 rfl rfl (Or.inl rfl) rfl ?_
      refine am_s_iconst am_cc1 dc233_3.1.1 ?_
      refine am_s_iadd dc233_3.1.2 ?_
      refine am_s_putI dc233_3.2.1 rfl rfl rfl rfl ?_
      refine am_s_return dc233_3.2.2 rfl (am_bkV ?_)
      refine am_s_aload_n rfl dc238_1.1.2.2 ?_
      exact am_s_virtual true dc238_1.2.1.1 rfl (by decide) rfl rfl rfl ((vi_f (vi_t q (Decidable.not_not.mp c1)) c2))
    · refine am_s_iconst am_cc1 dc193_0.2.1.1 ?_
      refine am_s_goto rfl dc193_0.2.1.2 ?_
      refine am_s_zreturn dc193_0.2.2.2 rfl (by decide) (am_bkI ?_)
      refine am_s_if_eq dc233_0.1.2.1 rfl (fun z => absurd z (by decide)) (fun _ => ?_)
      refine am_s_aload_n rfl dc233_0.1.2.2 ?_
      refine am_x_getI (x := I 163 7) dc233_0.2.1.1 rfl rfl (Or.inl rfl) rfl ?_
      refine am_s_bipush am_cb6 dc233_0.2.1.2 ?_
      refine am_s_ic_ne dc233_0.2.2.1 rfl (fun c3 => ?_) (fun c3 => ?_)
      · refine am_s_aload_n rfl dc233_1.2.1.1 ?_
        refine am_s_virtual true dc233_1.2.1.2 rfl (by decide) rfl rfl rfl (am_mth_of rfl rfl ?_)
        refine am_s_aload_n rfl dc193_0.1.1.1 ?_
        refine am_x_getI (x := I 163 5) dc193_0.1.1.2 rfl rfl (Or.inl rfl) rfl ?_
        refine am_s_iconst am_ccm1 dc193_0.1.2.1 ?_
        refine am_s_ic_ne dc193_0.1.2.2 rfl (fun z => absurd z c2) (fun _ => ?_)
        refine am_s_iconst am_cc1 dc193_0.2.1.1 ?_
        refine am_s_goto rfl dc193_0.2.1.2 ?_
        refine am_s_zreturn dc193_0.2.2.2 rfl (by decide) (am_bkI ?_)
        refine am_s_if_eq dc233_1.2.2.1 rfl (fun z => absurd z (by decide)) (fun _ => ?_)
        refine am_s_aload_n rfl dc233_1.2.2.2 ?_
        refine am_s_dup rfl dc233_2.1.1.1 ?_
        refine am_x_getI (x := I 163 4) dc233_2.1.1.2 rfl rfl (Or.inl rfl) rfl ?_
        refine am_s_iload_n rfl dc233_2.1.2.1 ?_
        refine am_s_iadd dc233_2.1.2.2 ?_
        refine am_s_putI dc233_2.2.1.1 rfl rfl rfl rfl ?_
        refine am_s_aload_n rfl dc233_2.2.1.2 ?_
        refine am_s_dup rfl dc233_2.2.2.1 ?_
        refine am_x_getI (x := I 163 7) dc233_2.2.2.2 rfl rfl (Or.inl rfl) rfl ?_
        refine am_s_iconst am_cc1 dc233_3.1.1 ?_
        refine am_s_iadd dc233_3.1.2 ?_
        refine am_s_putI dc233_3.2.1 rfl rfl rfl rfl ?_
        refine am_s_return dc233_3.2.2 rfl (am_bkV ?_)
        refine am_s_aload_n rfl dc238_1.1.2.2 ?_
        exact am_s_virtual true dc238_1.2.1.1 rfl (by decide) rfl rfl rfl ((vi_f (vi_t (vi_t q (Decidable.not_not.mp c1)) (Decidable.not_not.mp c2)) c3))
      · refine am_s_aload_n rfl dc233_0.2.2.2 ?_
        refine am_s_iconst am_cc3 dc233_1.1.1.1 ?_
        refine am_s_aload_n rfl dc233_1.1.1.2 ?_
        refine am_x_getI (x := I 163 4) dc233_1.1.2.1 rfl rfl (Or.inl rfl) rfl ?_
        refine am_s_virtual true dc233_1.1.2.2 rfl (by decide) rfl rfl rfl (am_mth_of rfl rfl ?_)
        refine am_s_aload_n rfl dc194_0.1.1.1 ?_
        refine am_x_getI (x := I 163 5) dc194_0.1.1.2 rfl rfl (Or.inl rfl) rfl ?_
        refine am_s_iconst am_ccm1 dc194_0.1.2.1 ?_
        refine am_s_ic_eq dc194_0.1.2.2 rfl (fun _ => ?_) (fun z => absurd z c2)
        refine am_s_aload_n rfl dc194_0.2.1.2 ?_
        refine am_s_iload_n rfl dc194_0.2.2.1 ?_
        refine am_s_putI dc194_0.2.2.2 rfl rfl rfl rfl ?_
        refine am_s_aload_n rfl dc194_1.1.1 ?_
        refine am_s_iload_n rfl dc194_1.1.2 ?_
        refine am_s_putI dc194_1.2.1 rfl rfl rfl rfl ?_
        refine am_s_return dc194_1.2.2 rfl (am_bkV ?_)
        refine am_s_aload_n rfl dc233_1.2.1.1 ?_
        refine am_s_virtual true dc233_1.2.1.2 rfl (by decide) rfl rfl rfl (am_mth_of rfl rfl ?_)
        refine am_s_aload_n rfl dc193_0.1.1.1 ?_
        refine am_x_getI (x := I 163 4) dc193_0.1.1.2 rfl rfl (Or.inl rfl) rfl ?_
        refine am_s_iconst am_ccm1 dc193_0.1.2.1 ?_
        refine am_s_ic_ne dc193_0.1.2.2 rfl (fun c4 => ?_) (fun c4 => ?_)
        · refine am_s_iconst am_cc0 dc193_0.2.2.1 ?_
          refine am_s_zreturn dc193_0.2.2.2 rfl (by decide) (am_bkI ?_)
          refine am_s_if_eq dc233_1.2.2.1 rfl (fun _ => ?_) (fun z => absurd z (by decide))
          refine am_s_aload_n rfl dc233_2.2.1.2 ?_
          refine am_s_dup rfl dc233_2.2.2.1 ?_
          refine am_x_getI (x := I 163 7) dc233_2.2.2.2 rfl rfl (Or.inl rfl) rfl ?_
          refine am_s_iconst am_cc1 dc233_3.1.1 ?_
          refine am_s_iadd dc233_3.1.2 ?_
          refine am_s_putI dc233_3.2.1 rfl rfl rfl rfl ?_
          refine am_s_return dc233_3.2.2 rfl (am_bkV ?_)
          refine am_s_aload_n rfl dc238_1.1.2.2 ?_
          exact am_s_virtual true dc238_1.2.1.1 rfl (by decide) rfl rfl rfl ((vi_f (vi_t (vi_t (vi_t q (Decidable.not_not.mp c1)) (Decidable.not_not.mp c2)) (Decidable.not_not.mp c3)) c4))
        · refine am_s_iconst am_cc1 dc193_0.2.1.1 ?_
          refine am_s_goto rfl dc193_0.2.1.2 ?_
          refine am_s_zreturn dc193_0.2.2.2 rfl (by decide) (am_bkI ?_)
          refine am_s_if_eq dc233_1.2.2.1 rfl (fun z => absurd z (by decide)) (fun _ => ?_)
          refine am_s_aload_n rfl dc233_1.2.2.2 ?_
          refine am_s_dup rfl dc233_2.1.1.1 ?_
          refine am_x_getI (x := I 163 4) dc233_2.1.1.2 rfl rfl (Or.inl rfl) rfl ?_
          refine am_s_iload_n rfl dc233_2.1.2.1 ?_
          refine am_s_iadd dc233_2.1.2.2 ?_
          refine am_s_putI dc233_2.2.1.1 rfl rfl rfl rfl ?_
          refine am_s_aload_n rfl dc233_2.2.1.2 ?_
          refine am_s_dup rfl dc233_2.2.2.1 ?_
          refine am_x_getI (x := I 163 7) dc233_2.2.2.2 rfl rfl (Or.inl rfl) rfl ?_
          refine am_s_iconst am_cc1 dc233_3.1.1 ?_
          refine am_s_iadd dc233_3.1.2 ?_
          refine am_s_putI dc233_3.2.1 rfl rfl rfl rfl ?_
          refine am_s_return dc233_3.2.2 rfl (am_bkV ?_)
          refine am_s_aload_n rfl dc238_1.1.2.2 ?_
          exact am_s_virtual true dc238_1.2.1.1 rfl (by decide) rfl rfl rfl ((vi_t (vi_t (vi_t (vi_t q (Decidable.not_not.mp c1)) (Decidable.not_not.mp c2)) (Decidable.not_not.mp c3)) (Decidable.not_not.mp c4)))
theorem v238_26 {sc : Option (Nat × (Nat → Int32))} {d k n : Nat} {P : am_O → Prop} {I : am_I} {J : am_J} {Pf : am_R} (hp : am_PF Pf) {l1 : Option Value} (q : (am_mth d 202 [.ref 163, .int 41] (am_SH, I, J, Pf) (am_af sc d 238 29 [some (.ref 163), l1] [.int 41, .ref 163] [] (am_SH, I, J, Pf) k n true P))) : am_go sc d 238 (26, [some (.ref 163), l1], [], (am_SH, I, J, Pf), k, n) P := by
  refine am_s_aload_n rfl dc238_1.2.1.2 ?_
  refine am_s_bipush am_cb41 dc238_1.2.2.1 ?_
  exact am_s_virtual true dc238_1.2.2.2 rfl (by decide) rfl rfl rfl (q)
theorem v238_49 {sc : Option (Nat × (Nat → Int32))} {d k n : Nat} {P : am_O → Prop} {I : am_I} {J : am_J} {Pf : am_R} (hp : am_PF Pf) {l1 : Option Value} {s0 : Int32} (q : (if s0 < 48 then (am_mth (d + 1) 198 [.ref 163] (am_SH, I, J, Pf) (am_af sc (d + 1) 238 72 [some (.ref 163), l1] [.ref 163] [] (am_SH, I, J, Pf) k n true P)) else (if 57 < s0 then (am_mth (d + 1) 198 [.ref 163] (am_SH, I, J, Pf) (am_af sc (d + 1) 238 72 [some (.ref 163), l1] [.ref 163] [] (am_SH, I, J, Pf) k n true P)) else (am_mth (d + 1) 201 [.ref 163, .int 0, .int 999] (am_SH, I, J, Pf) (am_af sc (d + 1) 238 62 [some (.ref 163), l1] [.int 999, .int 0, .ref 163, .int 0, .ref 163] [.int 0, .ref 163] (am_SH, I, J, Pf) k n true P))))) : am_go sc (d + 1) 238 (49, [some (.ref 163), l1], [.int s0], (am_SH, I, J, Pf), k, n) P := by
  refine am_s_static dc238_3.1.1.2 rfl rfl rfl (am_mth_of rfl rfl ?_)
  refine am_s_iload_n rfl dc197_0.1.1.1 ?_
  refine am_s_bipush am_cb48 dc197_0.1.1.2 ?_
  refine am_s_ic_lt dc197_0.1.2.1 rfl (fun c1 => ?_) (fun c1 => ?_)
  · refine am_s_iconst am_cc0 dc197_1.1 ?_
    refine am_s_zreturn dc197_1.2 rfl (by decide) (am_bkI ?_)
    refine am_s_if_eq dc238_3.1.2.1 rfl (fun _ => ?_) (fun z => absurd z (by decide))
    refine am_s_aload_n rfl dc238_4.1.2.2 ?_
    exact am_s_virtual true dc238_4.2.1.1 rfl (by decide) rfl rfl rfl ((vi_t q c1))
  · refine am_s_iload_n rfl dc197_0.1.2.2 ?_
    refine am_s_bipush am_cb57 dc197_0.2.1.1 ?_
    refine am_s_ic_gt dc197_0.2.1.2 rfl (fun c2 => ?_) (fun c2 => ?_)
    · refine am_s_iconst am_cc0 dc197_1.1 ?_
      refine am_s_zreturn dc197_1.2 rfl (by decide) (am_bkI ?_)
      refine am_s_if_eq dc238_3.1.2.1 rfl (fun _ => ?_) (fun z => absurd z (by decide))
      refine am_s_aload_n rfl dc238_4.1.2.2 ?_
      exact am_s_virtual true dc238_4.2.1.1 rfl (by decide) rfl rfl rfl ((vi_t (vi_f q c1) c2))
    · refine am_s_iconst am_cc1 dc197_0.2.2.1 ?_
      refine am_s_goto rfl dc197_0.2.2.2 ?_
      refine am_s_zreturn dc197_1.2 rfl (by decide) (am_bkI ?_)
      refine am_s_if_eq dc238_3.1.2.1 rfl (fun z => absurd z (by decide)) (fun _ => ?_)
      refine am_s_aload_n rfl dc238_3.1.2.2 ?_
      refine am_s_iconst am_cc0 dc238_3.2.1.1 ?_
      refine am_s_aload_n rfl dc238_3.2.1.2 ?_
      refine am_s_iconst am_cc0 dc238_3.2.2.1 ?_
      refine am_s_sipush am_cs999 dc238_3.2.2.2 ?_
      exact am_s_virtual true dc238_4.1.1.1 rfl (by decide) rfl rfl rfl ((vi_f (vi_f q c1) c2))
theorem v238_32 {sc : Option (Nat × (Nat → Int32))} {d k n : Nat} {P : am_O → Prop} {I : am_I} {J : am_J} {Pf : am_R} (hp : am_PF Pf) {l1 : Option Value} (q : (P (.inl none, (am_SH, am_u I 163 7 ((I 163 7) - 1), J, Pf), k, n))) : am_go sc d 238 (32, [some (.ref 163), l1], [], (am_SH, I, J, Pf), k, n) P := by
  refine am_s_aload_n rfl dc238_2.1.1.1 ?_
  refine am_s_dup rfl dc238_2.1.1.2 ?_
  refine am_x_getI (x := I 163 7) dc238_2.1.2.1 rfl rfl (Or.inl rfl) rfl ?_
  refine am_s_iconst am_cc1 dc238_2.1.2.2 ?_
  refine am_s_isub dc238_2.2.1.1 ?_
  refine am_s_putI dc238_2.2.1.2 rfl rfl rfl rfl ?_
  refine am_s_goto rfl dc238_2.2.2.1 ?_
  exact am_s_return dc238_9.2.2.2 rfl (q)
theorem v238_65 {sc : Option (Nat × (Nat → Int32))} {d k n : Nat} {P : am_O → Prop} {I : am_I} {J : am_J} {Pf : am_R} (hp : am_PF Pf) {l0 : Option Value} {l1 : Option Value} {s1 : Int32} {s2 : Int32} (q : (if (I 163 5) = (-1) then (am_in (I 163 28) 150 = true) ∧ (am_in (I 163 28) 150 = true) ∧ (P (.inl none, (am_SH, am_u (am_u (am_u I 172 (Int32.toNatClampNeg (I 163 28)) s1) 173 (Int32.toNatClampNeg (I 163 28)) s2) 163 28 ((I 163 28) + 1), J, Pf), k, n)) else (P (.inl none, (am_SH, I, J, Pf), k, n)))) : am_go sc (d + 2) 238 (65, [l0, l1], [.int s2, .int s1, .ref 163], (am_SH, I, J, Pf), k, n) P := by
  refine am_s_virtual true dc238_4.1.1.2 rfl (by decide) rfl rfl rfl (am_mth_of rfl rfl ?_)
  refine am_s_aload_n rfl dc232_0.1.1.1 ?_
  refine am_s_virtual true dc232_0.1.1.2 rfl (by decide) rfl rfl rfl (am_mth_of rfl rfl ?_)
  refine am_s_aload_n rfl dc193_0.1.1.1 ?_
  refine am_x_getI (x := I 163 5) dc193_0.1.1.2 rfl rfl (Or.inl rfl) rfl ?_
  refine am_s_iconst am_ccm1 dc193_0.1.2.1 ?_
  refine am_s_ic_ne dc193_0.1.2.2 rfl (fun c1 => ?_) (fun c1 => ?_)
  · refine am_s_iconst am_cc0 dc193_0.2.2.1 ?_
    refine am_s_zreturn dc193_0.2.2.2 rfl (by decide) (am_bkI ?_)
    refine am_s_if_ne dc232_0.1.2.1 rfl (fun z => absurd z (by decide)) (fun _ => ?_)
    refine am_s_return dc232_0.1.2.2 rfl (am_bkV ?_)
    refine am_s_goto rfl dc238_4.1.2.1 ?_
    exact am_s_return dc238_9.2.2.2 rfl ((vi_f q c1))
  · refine am_s_iconst am_cc1 dc193_0.2.1.1 ?_
    refine am_s_goto rfl dc193_0.2.1.2 ?_
    refine am_s_zreturn dc193_0.2.2.2 rfl (by decide) (am_bkI ?_)
    refine am_s_if_ne dc232_0.1.2.1 rfl (fun _ => ?_) (fun z => absurd z (by decide))
    refine am_s_aload_n rfl dc232_0.2.1.1 ?_
    refine am_s_getR (r := 172) dc232_0.2.1.2 rfl rfl rfl (hp _ _ _ rfl) ?_
    refine am_s_aload_n rfl dc232_0.2.2.1 ?_
    refine am_x_getI (x := I 163 28) dc232_0.2.2.2 rfl rfl (Or.inl rfl) rfl ?_
    refine am_s_iload_n rfl dc232_1.1.1.1 ?_
    refine am_s_iastore dc232_1.1.1.2 rfl ((vi_t q (Decidable.not_not.mp c1)).1) rfl ?_
    refine am_s_aload_n rfl dc232_1.1.2.1 ?_
    refine am_s_getR (r := 173) dc232_1.1.2.2 rfl rfl rfl (hp _ _ _ rfl) ?_
    refine am_s_aload_n rfl dc232_1.2.1.1 ?_
    refine am_x_getI (x := I 163 28) dc232_1.2.1.2 rfl rfl (Or.inl rfl) rfl ?_
    refine am_s_iload_n rfl dc232_1.2.2.1 ?_
    refine am_s_iastore dc232_1.2.2.2 rfl ((vi_t q (Decidable.not_not.mp c1)).2.1) rfl ?_
    refine am_s_aload_n rfl dc232_2.1.1 ?_
    refine am_s_dup rfl dc232_2.1.2.1 ?_
    refine am_x_getI (x := I 163 28) dc232_2.1.2.2 rfl rfl (Or.inl rfl) rfl ?_
    refine am_s_iconst am_cc1 dc232_2.2.1.1 ?_
    refine am_s_iadd dc232_2.2.1.2 ?_
    refine am_s_putI dc232_2.2.2.1 rfl rfl rfl rfl ?_
    refine am_s_return dc232_2.2.2.2 rfl (am_bkV ?_)
    refine am_s_goto rfl dc238_4.1.2.1 ?_
    exact am_s_return dc238_9.2.2.2 rfl ((vi_t q (Decidable.not_not.mp c1)).2.2)
theorem v238_75 {sc : Option (Nat × (Nat → Int32))} {d k n : Nat} {P : am_O → Prop} {I : am_I} {J : am_J} {Pf : am_R} (hp : am_PF Pf) {l1 : Option Value} {s0 : Int32} (q : (am_mth d 199 [.retAddr 9] (am_SH, I, J, Pf) (am_af sc d 238 78 [some (.ref 163), l1] [.retAddr 9, .int s0] [.int s0] (am_SH, I, J, Pf) k n false P))) : am_go sc d 238 (75, [some (.ref 163), l1], [.int s0], (am_SH, I, J, Pf), k, n) P := by
  refine am_s_ldcwT (x := 9) dc238_4.2.1.2 rfl rfl ?_
  exact am_s_static dc238_4.2.2.1 rfl rfl rfl (q)
theorem v238_81 {sc : Option (Nat × (Nat → Int32))} {d k n : Nat} {P : am_O → Prop} {I : am_I} {J : am_J} {Pf : am_R} (hp : am_PF Pf) {l1 : Option Value} {s0 : Int32} {s1 : Int32} (q : (if s0 = s1 then (am_mth d 236 [.ref 163, .int 5, .int 6] (am_SH, I, J, Pf) (am_af sc d 238 88 [some (.ref 163), l1] [.int 6, .int 5, .ref 163] [] (am_SH, I, J, Pf) k n true P)) else (am_mth d 198 [.ref 163] (am_SH, I, J, Pf) (am_af sc d 238 95 [some (.ref 163), l1] [.ref 163] [] (am_SH, I, J, Pf) k n true P)))) : am_go sc d 238 (81, [some (.ref 163), l1], [.int s1, .int s0], (am_SH, I, J, Pf), k, n) P := by
  refine am_s_ic_ne dc238_4.2.2.2 rfl (fun c1 => ?_) (fun c1 => ?_)
  · refine am_s_aload_n rfl dc238_5.2.1.2 ?_
    exact am_s_virtual true dc238_5.2.2.1 rfl (by decide) rfl rfl rfl ((vi_f q c1))
  · refine am_s_aload_n rfl dc238_5.1.1.1 ?_
    refine am_s_iconst am_cc5 dc238_5.1.1.2 ?_
    refine am_s_bipush am_cb6 dc238_5.1.2.1 ?_
    exact am_s_virtual true dc238_5.1.2.2 rfl (by decide) rfl rfl rfl ((vi_t q (Decidable.not_not.mp c1)))
theorem v238_91 {sc : Option (Nat × (Nat → Int32))} {d k n : Nat} {P : am_O → Prop} {I : am_I} {J : am_J} {Pf : am_R} (hp : am_PF Pf) {l0 : Option Value} {l1 : Option Value} (q : (P (.inl none, (am_SH, I, J, Pf), k, n))) : am_go sc d 238 (91, [l0, l1], [], (am_SH, I, J, Pf), k, n) P := by
  refine am_s_goto rfl dc238_5.2.1.1 ?_
  exact am_s_return dc238_9.2.2.2 rfl (q)
theorem v238_98 {sc : Option (Nat × (Nat → Int32))} {d k n : Nat} {P : am_O → Prop} {I : am_I} {J : am_J} {Pf : am_R} (hp : am_PF Pf) {l1 : Option Value} {s0 : Int32} (q : (am_mth d 199 [.retAddr 10] (am_SH, I, J, Pf) (am_af sc d 238 101 [some (.ref 163), l1] [.retAddr 10, .int s0] [.int s0] (am_SH, I, J, Pf) k n false P))) : am_go sc d 238 (98, [some (.ref 163), l1], [.int s0], (am_SH, I, J, Pf), k, n) P := by
  refine am_s_ldcwT (x := 10) dc238_5.2.2.2 rfl rfl ?_
  exact am_s_static dc238_6.1.1.1 rfl rfl rfl (q)
theorem v238_104 {sc : Option (Nat × (Nat → Int32))} {d k n : Nat} {P : am_O → Prop} {I : am_I} {J : am_J} {Pf : am_R} (hp : am_PF Pf) {l1 : Option Value} {s0 : Int32} {s1 : Int32} (q : (if s0 = s1 then (am_mth d 236 [.ref 163, .int 4, .int 7] (am_SH, I, J, Pf) (am_af sc d 238 111 [some (.ref 163), l1] [.int 7, .int 4, .ref 163] [] (am_SH, I, J, Pf) k n true P)) else (am_mth d 237 [.ref 163] (am_SH, I, J, Pf) (am_af sc d 238 118 [some (.ref 163), l1] [.ref 163] [] (am_SH, I, J, Pf) k n true P)))) : am_go sc d 238 (104, [some (.ref 163), l1], [.int s1, .int s0], (am_SH, I, J, Pf), k, n) P := by
  refine am_s_ic_ne dc238_6.1.1.2 rfl (fun c1 => ?_) (fun c1 => ?_)
  · refine am_s_aload_n rfl dc238_6.2.2.2 ?_
    exact am_s_virtual true dc238_7.1.1.1 rfl (by decide) rfl rfl rfl ((vi_f q c1))
  · refine am_s_aload_n rfl dc238_6.1.2.1 ?_
    refine am_s_iconst am_cc4 dc238_6.1.2.2 ?_
    refine am_s_bipush am_cb7 dc238_6.2.1.1 ?_
    exact am_s_virtual true dc238_6.2.1.2 rfl (by decide) rfl rfl rfl ((vi_t q (Decidable.not_not.mp c1)))
theorem v238_114 {sc : Option (Nat × (Nat → Int32))} {d k n : Nat} {P : am_O → Prop} {I : am_I} {J : am_J} {Pf : am_R} (hp : am_PF Pf) {l0 : Option Value} {l1 : Option Value} (q : (P (.inl none, (am_SH, I, J, Pf), k, n))) : am_go sc d 238 (114, [l0, l1], [], (am_SH, I, J, Pf), k, n) P := by
  refine am_s_goto rfl dc238_6.2.2.1 ?_
  exact am_s_return dc238_9.2.2.2 rfl (q)
theorem v238_121 {sc : Option (Nat × (Nat → Int32))} {d k n : Nat} {P : am_O → Prop} {I : am_I} {J : am_J} {Pf : am_R} (hp : am_PF Pf) {l1 : Option Value} {s0 : Int32} (q : (if s0 = (-1) then (if (I 163 5) = (-1) then (if (I 163 4) = (-1) then (am_mth (d + 1) 200 [.ref 163] (am_SH, am_u (am_u I 163 5 (I 163 4)) 163 6 1, J, Pf) (am_af sc (d + 1) 238 145 [some (.ref 163), some (.int s0)] [.ref 163] [] (am_SH, am_u (am_u I 163 5 (I 163 4)) 163 6 1, J, Pf) k n true P)) else (P (.inl none, (am_SH, am_u (am_u I 163 5 (I 163 4)) 163 6 1, J, Pf), k, n))) else (P (.inl none, (am_SH, I, J, Pf), k, n))) else (if (I 163 5) = (-1) then (am_mth (d + 1) 200 [.ref 163] (am_SH, I, J, Pf) (am_af sc (d + 1) 238 145 [some (.ref 163), some (.int s0)] [.ref 163] [] (am_SH, I, J, Pf) k n true P)) else (P (.inl none, (am_SH, I, J, Pf), k, n))))) : am_go sc (d + 1) 238 (121, [some (.ref 163), l1], [.int s0], (am_SH, I, J, Pf), k, n) P := by
  refine am_s_istore_n (ls' := [some (.ref 163), some (.int s0)]) rfl rfl dc238_7.1.1.2 ?_
  refine am_s_iload_n rfl dc238_7.1.2.1 ?_
  refine am_s_iconst am_ccm1 dc238_7.1.2.2 ?_
  refine am_s_ic_ne dc238_7.2.1.1 rfl (fun c1 => ?_) (fun c1 => ?_)
  · refine am_s_aload_n rfl dc238_8.1.2.1 ?_
    refine am_s_virtual true dc238_8.1.2.2 rfl (by decide) rfl rfl rfl (am_mth_of rfl rfl ?_)
    refine am_s_aload_n rfl dc193_0.1.1.1 ?_
    refine am_x_getI (x := I 163 5) dc193_0.1.1.2 rfl rfl (Or.inl rfl) rfl ?_
    refine am_s_iconst am_ccm1 dc193_0.1.2.1 ?_
    refine am_s_ic_ne dc193_0.1.2.2 rfl (fun c2 => ?_) (fun c2 => ?_)
    · refine am_s_iconst am_cc0 dc193_0.2.2.1 ?_
      refine am_s_zreturn dc193_0.2.2.2 rfl (by decide) (am_bkI ?_)
      refine am_s_if_ne dc238_8.2.1.1 rfl (fun z => absurd z (by decide)) (fun _ => ?_)
      exact am_s_return dc238_8.2.1.2 rfl ((vi_f (vi_f q c1) c2))
    · refine am_s_iconst am_cc1 dc193_0.2.1.1 ?_
      refine am_s_goto rfl dc193_0.2.1.2 ?_
      refine am_s_zreturn dc193_0.2.2.2 rfl (by decide) (am_bkI ?_)
      refine am_s_if_ne dc238_8.2.1.1 rfl (fun _ => ?_) (fun z => absurd z (by decide))
      refine am_s_aload_n rfl dc238_8.2.2.1 ?_
      exact am_s_virtual true dc238_8.2.2.2 rfl (by decide) rfl rfl rfl ((vi_t (vi_f q c1) (Decidable.not_not.mp c2)))
  · refine am_s_aload_n rfl dc238_7.2.1.2 ?_
    refine am_s_iconst am_cc1 dc238_7.2.2.1 ?_
    refine am_s_aload_n rfl dc238_7.2.2.2 ?_
    refine am_x_getI (x := I 163 4) dc238_8.1.1.1 rfl rfl (Or.inl rfl) rfl ?_
    refine am_s_virtual true dc238_8.1.1.2 rfl (by decide) rfl rfl rfl (am_mth_of rfl rfl ?_)
    refine am_s_aload_n rfl dc194_0.1.1.1 ?_
    refine am_x_getI (x := I 163 5) dc194_0.1.1.2 rfl rfl (Or.inl rfl) rfl ?_
    refine am_s_iconst am_ccm1 dc194_0.1.2.1 ?_
    refine am_s_ic_eq dc194_0.1.2.2 rfl (fun c2 => ?_) (fun c2 => ?_)
    · refine am_s_aload_n rfl dc194_0.2.1.2 ?_
      refine am_s_iload_n rfl dc194_0.2.2.1 ?_
      refine am_s_putI dc194_0.2.2.2 rfl rfl rfl rfl ?_
      refine am_s_aload_n rfl dc194_1.1.1 ?_
      refine am_s_iload_n rfl dc194_1.1.2 ?_
      refine am_s_putI dc194_1.2.1 rfl rfl rfl rfl ?_
      refine am_s_return dc194_1.2.2 rfl (am_bkV ?_)
      refine am_s_aload_n rfl dc238_8.1.2.1 ?_
      refine am_s_virtual true dc238_8.1.2.2 rfl (by decide) rfl rfl rfl (am_mth_of rfl rfl ?_)
      refine am_s_aload_n rfl dc193_0.1.1.1 ?_
      refine am_x_getI (x := I 163 4) dc193_0.1.1.2 rfl rfl (Or.inl rfl) rfl ?_
      refine am_s_iconst am_ccm1 dc193_0.1.2.1 ?_
      refine am_s_ic_ne dc193_0.1.2.2 rfl (fun c3 => ?_) (fun c3 => ?_)
      · refine am_s_iconst am_cc0 dc193_0.2.2.1 ?_
        refine am_s_zreturn dc193_0.2.2.2 rfl (by decide) (am_bkI ?_)
        refine am_s_if_ne dc238_8.2.1.1 rfl (fun z => absurd z (by decide)) (fun _ => ?_)
        exact am_s_return dc238_8.2.1.2 rfl ((vi_f (vi_t (vi_t q (Decidable.not_not.mp c1)) c2) c3))
      · refine am_s_iconst am_cc1 dc193_0.2.1.1 ?_
        refine am_s_goto rfl dc193_0.2.1.2 ?_
        refine am_s_zreturn dc193_0.2.2.2 rfl (by decide) (am_bkI ?_)
        refine am_s_if_ne dc238_8.2.1.1 rfl (fun _ => ?_) (fun z => absurd z (by decide))
        refine am_s_aload_n rfl dc238_8.2.2.1 ?_
        exact am_s_virtual true dc238_8.2.2.2 rfl (by decide) rfl rfl rfl ((vi_t (vi_t (vi_t q (Decidable.not_not.mp c1)) c2) (Decidable.not_not.mp c3)))
    · refine am_s_return dc194_0.2.1.1 rfl (am_bkV ?_)
      refine am_s_aload_n rfl dc238_8.1.2.1 ?_
      refine am_s_virtual true dc238_8.1.2.2 rfl (by decide) rfl rfl rfl (am_mth_of rfl rfl ?_)
      refine am_s_aload_n rfl dc193_0.1.1.1 ?_
      refine am_x_getI (x := I 163 5) dc193_0.1.1.2 rfl rfl (Or.inl rfl) rfl ?_
      refine am_s_iconst am_ccm1 dc193_0.1.2.1 ?_
      refine am_s_ic_ne dc193_0.1.2.2 rfl (fun _ => ?_) (fun z => absurd c2 z)
      refine am_s_iconst am_cc0 dc193_0.2.2.1 ?_
      refine am_s_zreturn dc193_0.2.2.2 rfl (by decide) (am_bkI ?_)
      refine am_s_if_ne dc238_8.2.1.1 rfl (fun z => absurd z (by decide)) (fun _ => ?_)
      exact am_s_return dc238_8.2.1.2 rfl ((vi_f (vi_t q (Decidable.not_not.mp c1)) c2))
theorem v238_148 {sc : Option (Nat × (Nat → Int32))} {d k n : Nat} {P : am_O → Prop} {I : am_I} {J : am_J} {Pf : am_R} (hp : am_PF Pf) {x1 : Int32} (q : (if (I 163 5) = (-1) then (am_in (I 163 28) 150 = true) ∧ (am_in (I 163 28) 150 = true) ∧ (P (.inl none, (am_SH, am_u (am_u (am_u I 172 (Int32.toNatClampNeg (I 163 28)) 1) 173 (Int32.toNatClampNeg (I 163 28)) x1) 163 28 ((I 163 28) + 1), J, Pf), k, n)) else (P (.inl none, (am_SH, I, J, Pf), k, n)))) : am_go sc (d + 2) 238 (148, [some (.ref 163), some (.int x1)], [], (am_SH, I, J, Pf), k, n) P := by
  refine am_s_aload_n rfl dc238_9.1.1 ?_
  refine am_s_iconst am_cc1 dc238_9.1.2 ?_
  refine am_s_iload_n rfl dc238_9.2.1 ?_
  refine am_s_virtual true dc238_9.2.2.1 rfl (by decide) rfl rfl rfl (am_mth_of rfl rfl ?_)
  refine am_s_aload_n rfl dc232_0.1.1.1 ?_
  refine am_s_virtual true dc232_0.1.1.2 rfl (by decide) rfl rfl rfl (am_mth_of rfl rfl ?_)
  refine am_s_aload_n rfl dc193_0.1.1.1 ?_
  refine am_x_getI (x := I 163 5) dc193_0.1.1.2 rfl rfl (Or.inl rfl) rfl ?_
  refine am_s_iconst am_ccm1 dc193_0.1.2.1 ?_
  refine am_s_ic_ne dc193_0.1.2.2 rfl (fun c1 => ?_) (fun c1 => ?_)
  · refine am_s_iconst am_cc0 dc193_0.2.2.1 ?_
    refine am_s_zreturn dc193_0.2.2.2 rfl (by decide) (am_bkI ?_)
    refine am_s_if_ne dc232_0.1.2.1 rfl (fun z => absurd z (by decide)) (fun _ => ?_)
    refine am_s_return dc232_0.1.2.2 rfl (am_bkV ?_)
    exact am_s_return dc238_9.2.2.2 rfl ((vi_f q c1))
  · refine am_s_iconst am_cc1 dc193_0.2.1.1 ?_
    refine am_s_goto rfl dc193_0.2.1.2 ?_
    refine am_s_zreturn dc193_0.2.2.2 rfl (by decide) (am_bkI ?_)
    refine am_s_if_ne dc232_0.1.2.1 rfl (fun _ => ?_) (fun z => absurd z (by decide))
    refine am_s_aload_n rfl dc232_0.2.1.1 ?_
    refine am_s_getR (r := 172) dc232_0.2.1.2 rfl rfl rfl (hp _ _ _ rfl) ?_
    refine am_s_aload_n rfl dc232_0.2.2.1 ?_
    refine am_x_getI (x := I 163 28) dc232_0.2.2.2 rfl rfl (Or.inl rfl) rfl ?_
    refine am_s_iload_n rfl dc232_1.1.1.1 ?_
    refine am_s_iastore dc232_1.1.1.2 rfl ((vi_t q (Decidable.not_not.mp c1)).1) rfl ?_
    refine am_s_aload_n rfl dc232_1.1.2.1 ?_
    refine am_s_getR (r := 173) dc232_1.1.2.2 rfl rfl rfl (hp _ _ _ rfl) ?_
    refine am_s_aload_n rfl dc232_1.2.1.1 ?_
    refine am_x_getI (x := I 163 28) dc232_1.2.1.2 rfl rfl (Or.inl rfl) rfl ?_
    refine am_s_iload_n rfl dc232_1.2.2.1 ?_
    refine am_s_iastore dc232_1.2.2.2 rfl ((vi_t q (Decidable.not_not.mp c1)).2.1) rfl ?_
    refine am_s_aload_n rfl dc232_2.1.1 ?_
    refine am_s_dup rfl dc232_2.1.2.1 ?_
    refine am_x_getI (x := I 163 28) dc232_2.1.2.2 rfl rfl (Or.inl rfl) rfl ?_
    refine am_s_iconst am_cc1 dc232_2.2.1.1 ?_
    refine am_s_iadd dc232_2.2.1.2 ?_
    refine am_s_putI dc232_2.2.2.1 rfl rfl rfl rfl ?_
    refine am_s_return dc232_2.2.2.2 rfl (am_bkV ?_)
    exact am_s_return dc238_9.2.2.2 rfl ((vi_t q (Decidable.not_not.mp c1)).2.2)
-- law (I)I
theorem v239_0 {sc : Option (Nat × (Nat → Int32))} {d k n : Nat} {P : am_O → Prop} {I : am_I} {J : am_J} {Pf : am_R} (hp : am_PF Pf) {x1 : Int32} {l2 : Option Value} (q : (if x1 < 0 then (P (.inl (some (.int 0)), (am_SH, am_u (am_u (am_u I 163 0 0) 163 0 1) 164 1 ((I 164 1) + 1), J, Pf), k, n)) else (if (I 163 2) < x1 then (P (.inl (some (.int 0)), (am_SH, am_u (am_u (am_u I 163 0 0) 163 0 1) 164 1 ((I 164 1) + 1), J, Pf), k, n)) else (if 150 < x1 then (P (.inl (some (.int 0)), (am_SH, am_u (am_u (am_u I 163 0 0) 163 0 1) 164 1 ((I 164 1) + 1), J, Pf), k, n)) else (am_mth (d + 1) 234 [.ref 163] (am_SH, am_u (am_u (am_u (am_u (am_u (am_u (am_u (am_u (am_u I 163 0 0) 163 2 0) 163 8 (-1)) 163 3 x1) 163 4 0) 163 5 (-1)) 163 7 0) 163 10 (-1)) 163 28 0, J, Pf) (am_af sc (d + 1) 239 51 [some (.ref 163), some (.int x1), l2] [.ref 163] [] (am_SH, am_u (am_u (am_u (am_u (am_u (am_u (am_u (am_u (am_u I 163 0 0) 163 2 0) 163 8 (-1)) 163 3 x1) 163 4 0) 163 5 (-1)) 163 7 0) 163 10 (-1)) 163 28 0, J, Pf) k n true P)))))) : am_go sc (d + 1) 239 (0, [some (.ref 163), some (.int x1), l2], [], (am_SH, I, J, Pf), k, n) P := by
  refine am_s_aload_n rfl dc239_0.1.1.1 ?_
  refine am_s_iconst am_cc0 dc239_0.1.1.2 ?_
  refine am_s_putI dc239_0.1.2.1 rfl rfl rfl rfl ?_
  refine am_s_aload_n rfl dc239_0.1.2.2 ?_
  refine am_s_iload_n rfl dc239_0.2.1.1 ?_
  refine am_s_if_lt dc239_0.2.1.2 rfl (fun c1 => ?_) (fun c1 => ?_)
  · refine am_s_iconst am_cc0 dc239_1.2.2.2 ?_
    refine am_s_iconst am_cc1 dc239_2.1.1.1 ?_
    refine am_s_iconst am_cc1 dc239_2.1.1.2 ?_
    refine am_s_virtual true dc239_2.1.2.1 rfl (by decide) rfl rfl rfl (am_mth_of rfl rfl ?_)
    refine am_s_iload_n rfl dc189_0.1.1.1 ?_
    refine am_s_if_ne dc189_0.1.1.2 rfl (fun z => absurd z (by decide)) (fun _ => ?_)
    refine am_s_aload_n rfl dc189_0.1.2.1 ?_
    refine am_x_getI (x := 0) dc189_0.1.2.2 rfl rfl (Or.inl rfl) rfl ?_
    refine am_s_if_ne dc189_0.2.1.1 rfl (fun z => absurd z (by decide)) (fun _ => ?_)
    refine am_s_aload_n rfl dc189_0.2.1.2 ?_
    refine am_s_iload_n rfl dc189_0.2.2.1 ?_
    refine am_s_putI dc189_0.2.2.2 rfl rfl rfl rfl ?_
    refine am_s_aload_n rfl dc189_1.1.1.1 ?_
    refine am_s_getR (r := 164) dc189_1.1.1.2 rfl rfl rfl (hp _ _ _ rfl) ?_
    refine am_s_iload_n rfl dc189_1.1.2.1 ?_
    refine am_s_dup2 rfl rfl dc189_1.1.2.2 ?_
    refine am_x_iaload (x := I 164 1) dc189_1.2.1.1 rfl (by decide +kernel) am_cN1 rfl ?_
    refine am_s_iconst am_cc1 dc189_1.2.1.2 ?_
    refine am_s_iadd dc189_1.2.2.1 ?_
    refine am_s_iastore dc189_1.2.2.2 rfl (by decide +kernel) am_cN1 ?_
    refine am_s_aload_n rfl dc189_2.1.1 ?_
    refine am_x_getI (x := 1) dc189_2.1.2.1 rfl rfl (Or.inl rfl) rfl ?_
    refine am_s_if_ne dc189_2.1.2.2 rfl (fun _ => ?_) (fun z => absurd z (by decide))
    refine am_s_iconst am_cc0 dc189_2.2.2.1 ?_
    refine am_s_zreturn dc189_2.2.2.2 rfl (by decide) (am_bkI ?_)
    refine am_s_if_ne dc239_2.1.2.2 rfl (fun z => absurd z (by decide)) (fun _ => ?_)
    refine am_s_iconst am_cc0 dc239_2.2.1.1 ?_
    exact am_s_ireturn dc239_2.2.1.2 rfl ((vi_t q c1))
  · refine am_s_iload_n rfl dc239_0.2.2.1 ?_
    refine am_s_aload_n rfl dc239_0.2.2.2 ?_
    refine am_x_getI (x := I 163 2) dc239_1.1.1.1 rfl rfl (Or.inl rfl) rfl ?_
    refine am_s_ic_gt dc239_1.1.1.2 rfl (fun c2 => ?_) (fun c2 => ?_)
    · refine am_s_iconst am_cc0 dc239_1.2.2.2 ?_
      refine am_s_iconst am_cc1 dc239_2.1.1.1 ?_
      refine am_s_iconst am_cc1 dc239_2.1.1.2 ?_
      refine am_s_virtual true dc239_2.1.2.1 rfl (by decide) rfl rfl rfl (am_mth_of rfl rfl ?_)
      refine am_s_iload_n rfl dc189_0.1.1.1 ?_
      refine am_s_if_ne dc189_0.1.1.2 rfl (fun z => absurd z (by decide)) (fun _ => ?_)
      refine am_s_aload_n rfl dc189_0.1.2.1 ?_
      refine am_x_getI (x := 0) dc189_0.1.2.2 rfl rfl (Or.inl rfl) rfl ?_
      refine am_s_if_ne dc189_0.2.1.1 rfl (fun z => absurd z (by decide)) (fun _ => ?_)
      refine am_s_aload_n rfl dc189_0.2.1.2 ?_
      refine am_s_iload_n rfl dc189_0.2.2.1 ?_
      refine am_s_putI dc189_0.2.2.2 rfl rfl rfl rfl ?_
      refine am_s_aload_n rfl dc189_1.1.1.1 ?_
      refine am_s_getR (r := 164) dc189_1.1.1.2 rfl rfl rfl (hp _ _ _ rfl) ?_
      refine am_s_iload_n rfl dc189_1.1.2.1 ?_
      refine am_s_dup2 rfl rfl dc189_1.1.2.2 ?_
      refine am_x_iaload (x := I 164 1) dc189_1.2.1.1 rfl (by decide +kernel) am_cN1 rfl ?_
      refine am_s_iconst am_cc1 dc189_1.2.1.2 ?_
      refine am_s_iadd dc189_1.2.2.1 ?_
      refine am_s_iastore dc189_1.2.2.2 rfl (by decide +kernel) am_cN1 ?_
      refine am_s_aload_n rfl dc189_2.1.1 ?_
      refine am_x_getI (x := 1) dc189_2.1.2.1 rfl rfl (Or.inl rfl) rfl ?_
      refine am_s_if_ne dc189_2.1.2.2 rfl (fun _ => ?_) (fun z => absurd z (by decide))
      refine am_s_iconst am_cc0 dc189_2.2.2.1 ?_
      refine am_s_zreturn dc189_2.2.2.2 rfl (by decide) (am_bkI ?_)
      refine am_s_if_ne dc239_2.1.2.2 rfl (fun z => absurd z (by decide)) (fun _ => ?_)
      refine am_s_iconst am_cc0 dc239_2.2.1.1 ?_
      exact am_s_ireturn dc239_2.2.1.2 rfl ((vi_t (vi_f q c1) c2))
    · refine am_s_iload_n rfl dc239_1.1.2.1 ?_
      refine am_s_sipush am_cs150 dc239_1.1.2.2 ?_
      refine am_s_ic_gt dc239_1.2.1.1 rfl (fun c3 => ?_) (fun c3 => ?_)
      · refine am_s_iconst am_cc0 dc239_1.2.2.2 ?_
        refine am_s_iconst am_cc1 dc239_2.1.1.1 ?_
        refine am_s_iconst am_cc1 dc239_2.1.1.2 ?_
        refine am_s_virtual true dc239_2.1.2.1 rfl (by decide) rfl rfl rfl (am_mth_of rfl rfl ?_)
        refine am_s_iload_n rfl dc189_0.1.1.1 ?_
        refine am_s_if_ne dc189_0.1.1.2 rfl (fun z => absurd z (by decide)) (fun _ => ?_)
        refine am_s_aload_n rfl dc189_0.1.2.1 ?_
        refine am_x_getI (x := 0) dc189_0.1.2.2 rfl rfl (Or.inl rfl) rfl ?_
        refine am_s_if_ne dc189_0.2.1.1 rfl (fun z => absurd z (by decide)) (fun _ => ?_)
        refine am_s_aload_n rfl dc189_0.2.1.2 ?_
        refine am_s_iload_n rfl dc189_0.2.2.1 ?_
        refine am_s_putI dc189_0.2.2.2 rfl rfl rfl rfl ?_
        refine am_s_aload_n rfl dc189_1.1.1.1 ?_
        refine am_s_getR (r := 164) dc189_1.1.1.2 rfl rfl rfl (hp _ _ _ rfl) ?_
        refine am_s_iload_n rfl dc189_1.1.2.1 ?_
        refine am_s_dup2 rfl rfl dc189_1.1.2.2 ?_
        refine am_x_iaload (x := I 164 1) dc189_1.2.1.1 rfl (by decide +kernel) am_cN1 rfl ?_
        refine am_s_iconst am_cc1 dc189_1.2.1.2 ?_
        refine am_s_iadd dc189_1.2.2.1 ?_
        refine am_s_iastore dc189_1.2.2.2 rfl (by decide +kernel) am_cN1 ?_
        refine am_s_aload_n rfl dc189_2.1.1 ?_
        refine am_x_getI (x := 1) dc189_2.1.2.1 rfl rfl (Or.inl rfl) rfl ?_
        refine am_s_if_ne dc189_2.1.2.2 rfl (fun _ => ?_) (fun z => absurd z (by decide))
        refine am_s_iconst am_cc0 dc189_2.2.2.1 ?_
        refine am_s_zreturn dc189_2.2.2.2 rfl (by decide) (am_bkI ?_)
        refine am_s_if_ne dc239_2.1.2.2 rfl (fun z => absurd z (by decide)) (fun _ => ?_)
        refine am_s_iconst am_cc0 dc239_2.2.1.1 ?_
        exact am_s_ireturn dc239_2.2.1.2 rfl ((vi_t (vi_f (vi_f q c1) c2) c3))
      · refine am_s_iconst am_cc1 dc239_1.2.1.2 ?_
        refine am_s_goto rfl dc239_1.2.2.1 ?_
        refine am_s_iconst am_cc1 dc239_2.1.1.1 ?_
        refine am_s_iconst am_cc1 dc239_2.1.1.2 ?_
        refine am_s_virtual true dc239_2.1.2.1 rfl (by decide) rfl rfl rfl (am_mth_of rfl rfl ?_)
        refine am_s_iload_n rfl dc189_0.1.1.1 ?_
        refine am_s_if_ne dc189_0.1.1.2 rfl (fun _ => ?_) (fun z => absurd z (by decide))
        refine am_s_aload_n rfl dc189_2.1.1 ?_
        refine am_x_getI (x := 0) dc189_2.1.2.1 rfl rfl (Or.inl rfl) rfl ?_
        refine am_s_if_ne dc189_2.1.2.2 rfl (fun z => absurd z (by decide)) (fun _ => ?_)
        refine am_s_iconst am_cc1 dc189_2.2.1.1 ?_
        refine am_s_goto rfl dc189_2.2.1.2 ?_
        refine am_s_zreturn dc189_2.2.2.2 rfl (by decide) (am_bkI ?_)
        refine am_s_if_ne dc239_2.1.2.2 rfl (fun _ => ?_) (fun z => absurd z (by decide))
        refine am_s_aload_n rfl dc239_2.2.2.1 ?_
        refine am_s_iload_n rfl dc239_2.2.2.2 ?_
        refine am_s_virtual true dc239_3.1.1.1 rfl (by decide) rfl rfl rfl (am_mth_of rfl rfl ?_)
        refine am_s_aload_n rfl dc204_0.1.1.1 ?_
        refine am_s_iconst am_cc0 dc204_0.1.1.2 ?_
        refine am_s_putI dc204_0.1.2.1 rfl rfl rfl rfl ?_
        refine am_s_aload_n rfl dc204_0.1.2.2 ?_
        refine am_s_iconst am_ccm1 dc204_0.2.1.1 ?_
        refine am_s_putI dc204_0.2.1.2 rfl rfl rfl rfl ?_
        refine am_s_aload_n rfl dc204_0.2.2.1 ?_
        refine am_s_iload_n rfl dc204_0.2.2.2 ?_
        refine am_s_putI dc204_1.1.1.1 rfl rfl rfl rfl ?_
        refine am_s_aload_n rfl dc204_1.1.1.2 ?_
        refine am_s_iconst am_cc0 dc204_1.1.2.1 ?_
        refine am_s_putI dc204_1.1.2.2 rfl rfl rfl rfl ?_
        refine am_s_aload_n rfl dc204_1.2.1.1 ?_
        refine am_s_iconst am_ccm1 dc204_1.2.1.2 ?_
        refine am_s_putI dc204_1.2.2.1 rfl rfl rfl rfl ?_
        refine am_s_aload_n rfl dc204_1.2.2.2 ?_
        refine am_s_iconst am_cc0 dc204_2.1.1 ?_
        refine am_s_putI dc204_2.1.2.1 rfl rfl rfl rfl ?_
        refine am_s_aload_n rfl dc204_2.1.2.2 ?_
        refine am_s_iconst am_ccm1 dc204_2.2.1 ?_
        refine am_s_putI dc204_2.2.2.1 rfl rfl rfl rfl ?_
        refine am_s_return dc204_2.2.2.2 rfl (am_bkV ?_)
        refine am_s_aload_n rfl dc239_3.1.1.2 ?_
        refine am_s_iconst am_cc0 dc239_3.1.2.1 ?_
        refine am_s_putI dc239_3.1.2.2 rfl rfl rfl rfl ?_
        refine am_s_aload_n rfl dc239_3.2.1.1 ?_
        exact am_s_virtual true dc239_3.2.1.2 rfl (by decide) rfl rfl rfl ((vi_f (vi_f (vi_f q c1) c2) c3))
theorem v239_77 {sc : Option (Nat × (Nat → Int32))} {d k n : Nat} {P : am_O → Prop} {I : am_I} {J : am_J} {Pf : am_R} (hp : am_PF Pf) {l1 : Option Value} {l2 : Option Value} (hl1 : am_k1 l1 = true) (q : (if (I 163 5) = (-1) then (am_mth (d + 2) 207 [.ref 163, .ref 172, .ref 174, .int (I 163 28)] (am_SH, am_u (am_u I 163 8 (I 163 5)) 163 29 (I 163 28), J, Pf) (am_af sc (d + 2) 239 114 [some (.ref 163), l1, some (.int 1)] [.int (I 163 28), .ref 174, .ref 172, .ref 163] [] (am_SH, am_u (am_u I 163 8 (I 163 5)) 163 29 (I 163 28), J, Pf) k n true P)) else (P (.inl (some (.int ((I 163 6) - 10))), (am_SH, am_u I 163 8 (I 163 5), J, Pf), k, n)))) : am_go sc (d + 2) 239 (77, [some (.ref 163), l1, l2], [], (am_SH, I, J, Pf), k, n) P := by
  refine am_s_aload_n rfl dc239_5.1.1.2 ?_
  refine am_s_iconst am_cc1 dc239_5.1.2.1 ?_
  refine am_s_virtual true dc239_5.1.2.2 rfl (by decide) rfl rfl rfl (am_mth_of rfl rfl ?_)
  refine am_s_aload_n rfl dc205_0.1.1.1 ?_
  refine am_s_aload_n rfl dc205_0.1.1.2 ?_
  refine am_x_getI (x := I 163 5) dc205_0.1.2.1 rfl rfl (Or.inl rfl) rfl ?_
  refine am_s_putI dc205_0.1.2.2 rfl rfl rfl rfl ?_
  refine am_s_aload_n rfl dc205_0.2.1.1 ?_
  refine am_s_virtual true dc205_0.2.1.2 rfl (by decide) rfl rfl rfl (am_mth_of rfl rfl ?_)
  refine am_s_aload_n rfl dc193_0.1.1.1 ?_
  refine am_x_getI (x := I 163 5) dc193_0.1.1.2 rfl rfl (Or.inl rfl) rfl ?_
  refine am_s_iconst am_ccm1 dc193_0.1.2.1 ?_
  refine am_s_ic_ne dc193_0.1.2.2 rfl (fun c1 => ?_) (fun c1 => ?_)
  · refine am_s_iconst am_cc0 dc193_0.2.2.1 ?_
    refine am_s_zreturn dc193_0.2.2.2 rfl (by decide) (am_bkI ?_)
    refine am_s_if_eq dc205_0.2.2.1 rfl (fun _ => ?_) (fun z => absurd z (by decide))
    refine am_s_aload_n rfl dc205_1.1.2.1 ?_
    refine am_x_getI (x := I 163 6) dc205_1.1.2.2 rfl rfl (Or.inl rfl) rfl ?_
    refine am_s_bipush am_cb10 dc205_1.2.1 ?_
    refine am_s_isub dc205_1.2.2.1 ?_
    refine am_s_ireturn dc205_1.2.2.2 rfl (am_bkI ?_)
    refine am_s_istore_n (ls' := [some (.ref 163), l1, some (.int ((I 163 6) - 10))]) rfl (am_set1_k (am_kill_x (j := 1) rfl hl1) rfl) dc239_5.2.1.1 ?_
    refine am_s_aload_n rfl dc239_5.2.1.2 ?_
    refine am_x_getI (x := I 163 5) dc239_5.2.2.1 rfl rfl (Or.inl rfl) rfl ?_
    refine am_s_iconst am_ccm1 dc239_5.2.2.2 ?_
    refine am_s_ic_eq dc239_6.1.1.1 rfl (fun z => absurd z c1) (fun _ => ?_)
    refine am_s_iload_n rfl dc239_6.1.1.2 ?_
    exact am_s_ireturn dc239_6.1.2.1 rfl ((vi_f q c1))
  · refine am_s_iconst am_cc1 dc193_0.2.1.1 ?_
    refine am_s_goto rfl dc193_0.2.1.2 ?_
    refine am_s_zreturn dc193_0.2.2.2 rfl (by decide) (am_bkI ?_)
    refine am_s_if_eq dc205_0.2.2.1 rfl (fun z => absurd z (by decide)) (fun _ => ?_)
    refine am_s_iload_n rfl dc205_0.2.2.2 ?_
    refine am_s_goto rfl dc205_1.1.1 ?_
    refine am_s_ireturn dc205_1.2.2.2 rfl (am_bkI ?_)
    refine am_s_istore_n (ls' := [some (.ref 163), l1, some (.int 1)]) rfl (am_set1_k (am_kill_x (j := 1) rfl hl1) rfl) dc239_5.2.1.1 ?_
    refine am_s_aload_n rfl dc239_5.2.1.2 ?_
    refine am_x_getI (x := I 163 5) dc239_5.2.2.1 rfl rfl (Or.inl rfl) rfl ?_
    refine am_s_iconst am_ccm1 dc239_5.2.2.2 ?_
    refine am_s_ic_eq dc239_6.1.1.1 rfl (fun _ => ?_) (fun z => absurd z c1)
    refine am_s_aload_n rfl dc239_6.1.2.2 ?_
    refine am_s_aload_n rfl dc239_6.2.1.1 ?_
    refine am_x_getI (x := I 163 28) dc239_6.2.1.2 rfl rfl (Or.inl rfl) rfl ?_
    refine am_s_putI dc239_6.2.2.1 rfl rfl rfl rfl ?_
    refine am_s_aload_n rfl dc239_6.2.2.2 ?_
    refine am_s_aload_n rfl dc239_7.1.1.1 ?_
    refine am_s_getR (r := 172) dc239_7.1.1.2 rfl rfl rfl (hp _ _ _ rfl) ?_
    refine am_s_aload_n rfl dc239_7.1.2.1 ?_
    refine am_s_getR (r := 174) dc239_7.1.2.2 rfl rfl rfl (hp _ _ _ rfl) ?_
    refine am_s_aload_n rfl dc239_7.2.1.1 ?_
    refine am_x_getI (x := I 163 28) dc239_7.2.1.2 rfl rfl (Or.inl rfl) rfl ?_
    exact am_s_virtual true dc239_7.2.2.1 rfl (by decide) rfl rfl rfl ((vi_t q (Decidable.not_not.mp c1)))
theorem v239_54 {sc : Option (Nat × (Nat → Int32))} {d k n : Nat} {P : am_O → Prop} {I : am_I} {J : am_J} {Pf : am_R} (hp : am_PF Pf) {l1 : Option Value} {l2 : Option Value} (q : (if (I 163 5) = (-1) then (am_mth (d + 1) 203 [.ref 163] (am_SH, I, J, Pf) (am_af sc (d + 1) 239 62 [some (.ref 163), l1, l2] [.ref 163] [] (am_SH, I, J, Pf) k n true P)) else (am_go sc (d + 1) 239 (77, [some (.ref 163), l1, l2], [], (am_SH, I, J, Pf), k, n) P))) : am_go sc (d + 1) 239 (54, [some (.ref 163), l1, l2], [], (am_SH, I, J, Pf), k, n) P := by
  refine am_s_aload_n rfl dc239_3.2.2.1 ?_
  refine am_s_virtual true dc239_3.2.2.2 rfl (by decide) rfl rfl rfl (am_mth_of rfl rfl ?_)
  refine am_s_aload_n rfl dc193_0.1.1.1 ?_
  refine am_x_getI (x := I 163 5) dc193_0.1.1.2 rfl rfl (Or.inl rfl) rfl ?_
  refine am_s_iconst am_ccm1 dc193_0.1.2.1 ?_
  refine am_s_ic_ne dc193_0.1.2.2 rfl (fun c1 => ?_) (fun c1 => ?_)
  · refine am_s_iconst am_cc0 dc193_0.2.2.1 ?_
    refine am_s_zreturn dc193_0.2.2.2 rfl (by decide) (am_bkI ?_)
    refine am_s_if_eq dc239_4.1.1.1 rfl (fun _ => ?_) (fun z => absurd z (by decide))
    exact (vi_f q c1)
  · refine am_s_iconst am_cc1 dc193_0.2.1.1 ?_
    refine am_s_goto rfl dc193_0.2.1.2 ?_
    refine am_s_zreturn dc193_0.2.2.2 rfl (by decide) (am_bkI ?_)
    refine am_s_if_eq dc239_4.1.1.1 rfl (fun z => absurd z (by decide)) (fun _ => ?_)
    refine am_s_aload_n rfl dc239_4.1.1.2 ?_
    exact am_s_virtual true dc239_4.1.2.1 rfl (by decide) rfl rfl rfl ((vi_t q (Decidable.not_not.mp c1)))
theorem v239_117 {sc : Option (Nat × (Nat → Int32))} {d k n : Nat} {P : am_O → Prop} {I : am_I} {J : am_J} {Pf : am_R} (hp : am_PF Pf) {l1 : Option Value} {x2 : Int32} (q : (am_mth d 207 [.ref 163, .ref 173, .ref 175, .int (I 163 28)] (am_SH, I, J, Pf) (am_af sc d 239 130 [some (.ref 163), l1, some (.int x2)] [.int (I 163 28), .ref 175, .ref 173, .ref 163] [] (am_SH, I, J, Pf) k n true P))) : am_go sc d 239 (117, [some (.ref 163), l1, some (.int x2)], [], (am_SH, I, J, Pf), k, n) P := by
  refine am_s_aload_n rfl dc239_7.2.2.2 ?_
  refine am_s_aload_n rfl dc239_8.1.1.1 ?_
  refine am_s_getR (r := 173) dc239_8.1.1.2 rfl rfl rfl (hp _ _ _ rfl) ?_
  refine am_s_aload_n rfl dc239_8.1.2.1 ?_
  refine am_s_getR (r := 175) dc239_8.1.2.2 rfl rfl rfl (hp _ _ _ rfl) ?_
  refine am_s_aload_n rfl dc239_8.2.1.1 ?_
  refine am_x_getI (x := I 163 28) dc239_8.2.1.2 rfl rfl (Or.inl rfl) rfl ?_
  exact am_s_virtual true dc239_8.2.2.1 rfl (by decide) rfl rfl rfl (q)
theorem v239_65 {sc : Option (Nat × (Nat → Int32))} {d k n : Nat} {P : am_O → Prop} {I : am_I} {J : am_J} {Pf : am_R} (hp : am_PF Pf) {l1 : Option Value} {l2 : Option Value} {s0 : Int32} (q : (if s0 = 0 then (am_go sc (d + 1) 239 (77, [some (.ref 163), l1, l2], [], (am_SH, I, J, Pf), k, n) P) else (if (I 163 5) = (-1) then (am_go sc (d + 1) 239 (77, [some (.ref 163), l1, l2], [], (am_SH, am_u (am_u I 163 5 (I 163 4)) 163 6 1, J, Pf), k, n) P) else (am_go sc (d + 1) 239 (77, [some (.ref 163), l1, l2], [], (am_SH, I, J, Pf), k, n) P)))) : am_go sc (d + 1) 239 (65, [some (.ref 163), l1, l2], [.int s0], (am_SH, I, J, Pf), k, n) P := by
  refine am_s_if_eq dc239_4.1.2.2 rfl (fun c1 => ?_) (fun c1 => ?_)
  · exact (vi_t q c1)
  · refine am_s_aload_n rfl dc239_4.2.1.1 ?_
    refine am_s_iconst am_cc1 dc239_4.2.1.2 ?_
    refine am_s_aload_n rfl dc239_4.2.2.1 ?_
    refine am_x_getI (x := I 163 4) dc239_4.2.2.2 rfl rfl (Or.inl rfl) rfl ?_
    refine am_s_virtual true dc239_5.1.1.1 rfl (by decide) rfl rfl rfl (am_mth_of rfl rfl ?_)
    refine am_s_aload_n rfl dc194_0.1.1.1 ?_
    refine am_x_getI (x := I 163 5) dc194_0.1.1.2 rfl rfl (Or.inl rfl) rfl ?_
    refine am_s_iconst am_ccm1 dc194_0.1.2.1 ?_
    refine am_s_ic_eq dc194_0.1.2.2 rfl (fun c2 => ?_) (fun c2 => ?_)
    · refine am_s_aload_n rfl dc194_0.2.1.2 ?_
      refine am_s_iload_n rfl dc194_0.2.2.1 ?_
      refine am_s_putI dc194_0.2.2.2 rfl rfl rfl rfl ?_
      refine am_s_aload_n rfl dc194_1.1.1 ?_
      refine am_s_iload_n rfl dc194_1.1.2 ?_
      refine am_s_putI dc194_1.2.1 rfl rfl rfl rfl ?_
      refine am_s_return dc194_1.2.2 rfl (am_bkV ?_)
      exact (vi_t (vi_f q c1) c2)
    · refine am_s_return dc194_0.2.1.1 rfl (am_bkV ?_)
      exact (vi_f (vi_f q c1) c2)
theorem v239_133 {sc : Option (Nat × (Nat → Int32))} {d k n : Nat} {P : am_O → Prop} {I : am_I} {J : am_J} {Pf : am_R} (hp : am_PF Pf) {l0 : Option Value} {l1 : Option Value} {x2 : Int32} (q : (P (.inl (some (.int x2)), (am_SH, I, J, Pf), k, n))) : am_go sc d 239 (133, [l0, l1, some (.int x2)], [], (am_SH, I, J, Pf), k, n) P := by
  refine am_s_iload_n rfl dc239_8.2.2.2 ?_
  exact am_s_ireturn dc239_9 rfl (q)
-- valueNow ()I
theorem v240_0 {sc : Option (Nat × (Nat → Int32))} {d k n : Nat} {P : am_O → Prop} {I : am_I} {J : am_J} {Pf : am_R} (hp : am_PF Pf) {l1 : Option Value} {l2 : Option Value} {l3 : Option Value} (q : (am_go sc d 240 (4, [some (.ref 163), some (.int 0), some (.int 0), l3], [], (am_SH, I, J, Pf), k, n) P)) : am_go sc d 240 (0, [some (.ref 163), l1, l2, l3], [], (am_SH, I, J, Pf), k, n) P := by
  refine am_s_iconst am_cc0 dc240_0.1.1.1 ?_
  refine am_s_istore_n (ls' := [some (.ref 163), some (.int 0), l2, l3]) rfl rfl dc240_0.1.1.2 ?_
  refine am_s_iconst am_cc0 dc240_0.1.2.1 ?_
  refine am_s_istore_n (ls' := [some (.ref 163), some (.int 0), some (.int 0), l3]) rfl rfl dc240_0.1.2.2 ?_
  exact q
theorem v240_4 {sc : Option (Nat × (Nat → Int32))} {d k n : Nat} {P : am_O → Prop} {I : am_I} {J : am_J} {Pf : am_R} (hp : am_PF Pf) {x1 : Int32} {x2 : Int32} {l3 : Option Value} (q : (if (I 163 29) ≤ x2 then (P (.inl (some (.int (I 176 0))), (am_SH, I, J, Pf), k, n)) else (am_in x2 150 = true) ∧ (if 1 < (I 174 (Int32.toNatClampNeg x2)) then (am_in ((x1 + (-1)) - 1) 150 = true) ∧ (am_in (x1 + (-1)) 150 = true) ∧ (if (I 174 (Int32.toNatClampNeg x2)) = 2 then (am_in ((x1 + (-1)) - 1) 150 = true) ∧ (am_go sc (d + 1) 240 (4, [some (.ref 163), some (.int (x1 + (-1))), some (.int (x2 + 1)), some (.int (I 174 (Int32.toNatClampNeg x2)))], [], (am_SH, am_u I 176 (Int32.toNatClampNeg ((x1 + (-1)) - 1)) ((I 176 (Int32.toNatClampNeg ((x1 + (-1)) - 1))) + (I 176 (Int32.toNatClampNeg (x1 + (-1))))), J, Pf), k, n) P) else (if (I 174 (Int32.toNatClampNeg x2)) = 3 then (am_in ((x1 + (-1)) - 1) 150 = true) ∧ (am_go sc (d + 1) 240 (4, [some (.ref 163), some (.int (x1 + (-1))), some (.int (x2 + 1)), some (.int (I 174 (Int32.toNatClampNeg x2)))], [], (am_SH, am_u I 176 (Int32.toNatClampNeg ((x1 + (-1)) - 1)) ((I 176 (Int32.toNatClampNeg ((x1 + (-1)) - 1))) - (I 176 (Int32.toNatClampNeg (x1 + (-1))))), J, Pf), k, n) P) else (if (I 174 (Int32.toNatClampNeg x2)) = 4 then (am_in ((x1 + (-1)) - 1) 150 = true) ∧ (am_go sc (d + 1) 240 (4, [some (.ref 163), some (.int (x1 + (-1))), some (.int (x2 + 1)), some (.int (I 174 (Int32.toNatClampNeg x2)))], [], (am_SH, am_u I 176 (Int32.toNatClampNeg ((x1 + (-1)) - 1)) ((I 176 (Int32.toNatClampNeg ((x1 + (-1)) - 1))) * (I 176 (Int32.toNatClampNeg (x1 + (-1))))), J, Pf), k, n) P) else (if (I 174 (Int32.toNatClampNeg x2)) = 5 then (if (I 176 (Int32.toNatClampNeg (x1 + (-1)))) = 0 then (am_in ((x1 + (-1)) - 1) 150 = true) ∧ (am_go sc (d + 1) 240 (4, [some (.ref 163), some (.int (x1 + (-1))), some (.int (x2 + 1)), some (.int (I 174 (Int32.toNatClampNeg x2)))], [], (am_SH, am_u I 176 (Int32.toNatClampNeg ((x1 + (-1)) - 1)) 0, J, Pf), k, n) P) else (¬ (I 176 (Int32.toNatClampNeg (x1 + (-1)))) = 0) ∧ (am_in ((x1 + (-1)) - 1) 150 = true) ∧ (am_go sc (d + 1) 240 (4, [some (.ref 163), some (.int (x1 + (-1))), some (.int (x2 + 1)), some (.int (I 174 (Int32.toNatClampNeg x2)))], [], (am_SH, am_u I 176 (Int32.toNatClampNeg ((x1 + (-1)) - 1)) ((I 176 (Int32.toNatClampNeg ((x1 + (-1)) - 1))) / (I 176 (Int32.toNatClampNeg (x1 + (-1))))), J, Pf), k, n) P)) else (if (I 174 (Int32.toNatClampNeg x2)) = 8 then (if (I 176 (Int32.toNatClampNeg (x1 + (-1)))) = 0 then (am_in ((x1 + (-1)) - 1) 150 = true) ∧ (am_go sc (d + 1) 240 (4, [some (.ref 163), some (.int (x1 + (-1))), some (.int (x2 + 1)), some (.int (I 174 (Int32.toNatClampNeg x2)))], [], (am_SH, am_u I 176 (Int32.toNatClampNeg ((x1 + (-1)) - 1)) 0, J, Pf), k, n) P) else (¬ (I 176 (Int32.toNatClampNeg (x1 + (-1)))) = 0) ∧ (am_in ((x1 + (-1)) - 1) 150 = true) ∧ (am_go sc (d + 1) 240 (4, [some (.ref 163), some (.int (x1 + (-1))), some (.int (x2 + 1)), some (.int (I 174 (Int32.toNatClampNeg x2)))], [], (am_SH, am_u I 176 (Int32.toNatClampNeg ((x1 + (-1)) - 1)) ((I 176 (Int32.toNatClampNeg ((x1 + (-1)) - 1))) - (I 176 (Int32.toNatClampNeg ((x1 + (-1)) - 1))) / (I 176 (Int32.toNatClampNeg (x1 + (-1)))) * (I 176 (Int32.toNatClampNeg (x1 + (-1))))), J, Pf), k, n) P)) else (if (I 176 (Int32.toNatClampNeg (x1 + (-1)))) ≤ (I 176 (Int32.toNatClampNeg ((x1 + (-1)) - 1))) then (if (I 174 (Int32.toNatClampNeg x2)) = 6 then (am_in ((x1 + (-1)) - 1) 150 = true) ∧ (am_go sc (d + 1) 240 (4, [some (.ref 163), some (.int (x1 + (-1))), some (.int (x2 + 1)), some (.int (I 174 (Int32.toNatClampNeg x2)))], [], (am_SH, am_u I 176 (Int32.toNatClampNeg ((x1 + (-1)) - 1)) (I 176 (Int32.toNatClampNeg (x1 + (-1)))), J, Pf), k, n) P) else (am_in ((x1 + (-1)) - 1) 150 = true) ∧ (am_go sc (d + 1) 240 (4, [some (.ref 163), some (.int (x1 + (-1))), some (.int (x2 + 1)), some (.int (I 174 (Int32.toNatClampNeg x2)))], [], (am_SH, am_u I 176 (Int32.toNatClampNeg ((x1 + (-1)) - 1)) (I 176 (Int32.toNatClampNeg ((x1 + (-1)) - 1))), J, Pf), k, n) P)) else (if (I 174 (Int32.toNatClampNeg x2)) = 6 then (am_in ((x1 + (-1)) - 1) 150 = true) ∧ (am_go sc (d + 1) 240 (4, [some (.ref 163), some (.int (x1 + (-1))), some (.int (x2 + 1)), some (.int (I 174 (Int32.toNatClampNeg x2)))], [], (am_SH, am_u I 176 (Int32.toNatClampNeg ((x1 + (-1)) - 1)) (I 176 (Int32.toNatClampNeg ((x1 + (-1)) - 1))), J, Pf), k, n) P) else (am_in ((x1 + (-1)) - 1) 150 = true) ∧ (am_go sc (d + 1) 240 (4, [some (.ref 163), some (.int (x1 + (-1))), some (.int (x2 + 1)), some (.int (I 174 (Int32.toNatClampNeg x2)))], [], (am_SH, am_u I 176 (Int32.toNatClampNeg ((x1 + (-1)) - 1)) (I 176 (Int32.toNatClampNeg (x1 + (-1)))), J, Pf), k, n) P)))))))) else (if (I 174 (Int32.toNatClampNeg x2)) = 0 then (am_in x2 150 = true) ∧ (am_in x1 150 = true) ∧ (am_go sc (d + 1) 240 (4, [some (.ref 163), some (.int (x1 + 1)), some (.int (x2 + 1)), some (.int (I 174 (Int32.toNatClampNeg x2)))], [], (am_SH, am_u I 176 (Int32.toNatClampNeg x1) (I 175 (Int32.toNatClampNeg x2)), J, Pf), k, n) P) else (am_in x2 150 = true) ∧ (am_in (I 175 (Int32.toNatClampNeg x2)) 6 = true) ∧ (am_in x1 150 = true) ∧ (am_go sc (d + 1) 240 (4, [some (.ref 163), some (.int (x1 + 1)), some (.int (x2 + 1)), some (.int (I 174 (Int32.toNatClampNeg x2)))], [], (am_SH, am_u I 176 (Int32.toNatClampNeg x1) (I 177 (Int32.toNatClampNeg (I 175 (Int32.toNatClampNeg x2)))), J, Pf), k, n) P))))) : am_go sc (d + 1) 240 (4, [some (.ref 163), some (.int x1), some (.int x2), l3], [], (am_SH, I, J, Pf), k, n) P := by
  refine am_s_iload_n rfl dc240_0.2.1.1 ?_
  refine am_s_aload_n rfl dc240_0.2.1.2 ?_
  refine am_x_getI (x := I 163 29) dc240_0.2.2.1 rfl rfl (Or.inl rfl) rfl ?_
  refine am_s_ic_ge dc240_0.2.2.2 rfl (fun c1 => ?_) (fun c1 => ?_)
  · refine am_s_aload_n rfl dc240_7.1.2.1 ?_
    refine am_s_getR (r := 176) dc240_7.1.2.2 rfl rfl rfl (hp _ _ _ rfl) ?_
    refine am_s_iconst am_cc0 dc240_7.2.1 ?_
    refine am_x_iaload (x := I 176 0) dc240_7.2.2.1 rfl (by decide +kernel) am_cN0 rfl ?_
    exact am_s_ireturn dc240_7.2.2.2 rfl ((vi_t q c1))
  · refine am_s_aload_n rfl dc240_1.1.1.1 ?_
    refine am_s_getR (r := 174) dc240_1.1.1.2 rfl rfl rfl (hp _ _ _ rfl) ?_
    refine am_s_iload_n rfl dc240_1.1.2.1 ?_
    refine am_x_iaload (x := I 174 (Int32.toNatClampNeg x2)) dc240_1.1.2.2 rfl ((vi_f q c1).1) rfl rfl ?_
    refine am_s_istore_n (ls' := [some (.ref 163), some (.int x1), some (.int x2), some (.int (I 174 (Int32.toNatClampNeg x2)))]) rfl rfl dc240_1.2.1.1 ?_
    refine am_s_iload_n rfl dc240_1.2.1.2 ?_
    refine am_s_iconst am_cc1 dc240_1.2.2.1 ?_
    refine am_s_ic_gt dc240_1.2.2.2 rfl (fun c2 => ?_) (fun c2 => ?_)
    · refine am_s_iinc (ls' := [some (.ref 163), some (.int (x1 + (-1))), some (.int x2), some (.int (I 174 (Int32.toNatClampNeg x2)))]) am_ccm1 rfl rfl dc240_4.2.1.1 ?_
      refine am_s_aload_n rfl dc240_4.2.1.2 ?_
      refine am_s_getR (r := 176) dc240_4.2.2.1 rfl rfl rfl (hp _ _ _ rfl) ?_
      refine am_s_iload_n rfl dc240_4.2.2.2 ?_
      refine am_s_iconst am_cc1 dc240_5.1.1.1 ?_
      refine am_s_isub dc240_5.1.1.2 ?_
      refine am_s_iload_n rfl dc240_5.1.2.1 ?_
      refine am_s_aload_n rfl dc240_5.1.2.2 ?_
      refine am_s_getR (r := 176) dc240_5.2.1.1 rfl rfl rfl (hp _ _ _ rfl) ?_
      refine am_s_iload_n rfl dc240_5.2.1.2 ?_
      refine am_s_iconst am_cc1 dc240_5.2.2.1 ?_
      refine am_s_isub dc240_5.2.2.2 ?_
      refine am_x_iaload (x := I 176 (Int32.toNatClampNeg ((x1 + (-1)) - 1))) dc240_6.1.1.1 rfl ((vi_t (vi_f q c1).2 c2).1) rfl rfl ?_
      refine am_s_aload_n rfl dc240_6.1.1.2 ?_
      refine am_s_getR (r := 176) dc240_6.1.2.1 rfl rfl rfl (hp _ _ _ rfl) ?_
      refine am_s_iload_n rfl dc240_6.1.2.2 ?_
      refine am_x_iaload (x := I 176 (Int32.toNatClampNeg (x1 + (-1)))) dc240_6.2.1.1 rfl ((vi_t (vi_f q c1).2 c2).2.1) rfl rfl ?_
      refine am_s_static dc240_6.2.1.2 rfl rfl rfl (am_mth_of rfl rfl ?_)
      refine am_s_iload_n rfl dc241_0.1.1.1 ?_
      refine am_s_iconst am_cc2 dc241_0.1.1.2 ?_
      refine am_s_ic_ne dc241_0.1.2.1 rfl (fun c3 => ?_) (fun c3 => ?_)
      · refine am_s_iload_n rfl dc241_0.2.2.2 ?_
        refine am_s_iconst am_cc3 dc241_1.1.1.1 ?_
        refine am_s_ic_ne dc241_1.1.1.2 rfl (fun c4 => ?_) (fun c4 => ?_)
        · refine am_s_iload_n rfl dc241_1.2.2.1 ?_
          refine am_s_iconst am_cc4 dc241_1.2.2.2 ?_
          refine am_s_ic_ne dc241_2.1.1.1 rfl (fun c5 => ?_) (fun c5 => ?_)
          · refine am_s_iload_n rfl dc241_2.2.1.2 ?_
            refine am_s_iconst am_cc5 dc241_2.2.2.1 ?_
            refine am_s_ic_eq dc241_2.2.2.2 rfl (fun c6 => ?_) (fun c6 => ?_)
            · refine am_s_iload_n rfl dc241_3.1.2.2 ?_
              refine am_s_if_ne dc241_3.2.1.1 rfl (fun c7 => ?_) (fun c7 => ?_)
              · refine am_s_iload_n rfl dc241_3.2.2.2 ?_
                refine am_s_iconst am_cc5 dc241_4.1.1.1 ?_
                refine am_s_ic_ne dc241_4.1.1.2 rfl (fun z => absurd c6 z) (fun _ => ?_)
                refine am_s_iload_n rfl dc241_4.1.2.1 ?_
                refine am_s_iload_n rfl dc241_4.1.2.2 ?_
                refine am_s_idiv ((vi_f (vi_t (vi_f (vi_f (vi_f (vi_t (vi_f q c1).2 c2).2.2 c3) c4) c5) c6) c7).1) dc241_4.2.1.1 ?_
                refine am_s_goto rfl dc241_4.2.1.2 ?_
                refine am_s_ireturn dc241_5.1.1.2 rfl (am_bkI ?_)
                refine am_s_iastore dc240_6.2.2.1 rfl ((vi_f (vi_t (vi_f (vi_f (vi_f (vi_t (vi_f q c1).2 c2).2.2 c3) c4) c5) c6) c7).2.1) rfl ?_
                refine am_s_iinc (ls' := [some (.ref 163), some (.int (x1 + (-1))), some (.int (x2 + 1)), some (.int (I 174 (Int32.toNatClampNeg x2)))]) am_cc1 rfl rfl dc240_6.2.2.2 ?_
                refine am_s_goto rfl dc240_7.1.1 ?_
                exact (vi_f (vi_t (vi_f (vi_f (vi_f (vi_t (vi_f q c1).2 c2).2.2 c3) c4) c5) c6) c7).2.2
              · refine am_s_iconst am_cc0 dc241_3.2.1.2 ?_
                refine am_s_goto rfl dc241_3.2.2.1 ?_
                refine am_s_ireturn dc241_5.1.1.2 rfl (am_bkI ?_)
                refine am_s_iastore dc240_6.2.2.1 rfl ((vi_t (vi_t (vi_f (vi_f (vi_f (vi_t (vi_f q c1).2 c2).2.2 c3) c4) c5) c6) (Decidable.not_not.mp c7)).1) rfl ?_
                refine am_s_iinc (ls' := [some (.ref 163), some (.int (x1 + (-1))), some (.int (x2 + 1)), some (.int (I 174 (Int32.toNatClampNeg x2)))]) am_cc1 rfl rfl dc240_6.2.2.2 ?_
                refine am_s_goto rfl dc240_7.1.1 ?_
                exact (vi_t (vi_t (vi_f (vi_f (vi_f (vi_t (vi_f q c1).2 c2).2.2 c3) c4) c5) c6) (Decidable.not_not.mp c7)).2
            · refine am_s_iload_n rfl dc241_3.1.1.1 ?_
              refine am_s_bipush am_cb8 dc241_3.1.1.2 ?_
              refine am_s_ic_ne dc241_3.1.2.1 rfl (fun c7 => ?_) (fun c7 => ?_)
              · refine am_s_iload_n rfl dc241_5.1.2.1 ?_
                refine am_s_iload_n rfl dc241_5.1.2.2 ?_
                refine am_s_ic_ge dc241_5.2.1.1 rfl (fun c8 => ?_) (fun c8 => ?_)
                · refine am_s_iconst am_cc0 dc241_5.2.2.2 ?_
                  refine am_s_iload_n rfl dc241_6.1.1.1 ?_
                  refine am_s_bipush am_cb6 dc241_6.1.1.2 ?_
                  refine am_s_ic_ne dc241_6.1.2.1 rfl (fun c9 => ?_) (fun c9 => ?_)
                  · refine am_s_iconst am_cc0 dc241_6.2.1.2 ?_
                    refine am_s_ic_ne dc241_6.2.2.1 rfl (fun z => absurd z (by decide)) (fun _ => ?_)
                    refine am_s_iload_n rfl dc241_6.2.2.2 ?_
                    refine am_s_goto rfl dc241_7.1 ?_
                    refine am_s_ireturn dc241_7.2.2 rfl (am_bkI ?_)
                    refine am_s_iastore dc240_6.2.2.1 rfl ((vi_f (vi_t (vi_f (vi_f (vi_f (vi_f (vi_f (vi_t (vi_f q c1).2 c2).2.2 c3) c4) c5) c6) c7) c8) c9).1) rfl ?_
                    refine am_s_iinc (ls' := [some (.ref 163), some (.int (x1 + (-1))), some (.int (x2 + 1)), some (.int (I 174 (Int32.toNatClampNeg x2)))]) am_cc1 rfl rfl dc240_6.2.2.2 ?_
                    refine am_s_goto rfl dc240_7.1.1 ?_
                    exact (vi_f (vi_t (vi_f (vi_f (vi_f (vi_f (vi_f (vi_t (vi_f q c1).2 c2).2.2 c3) c4) c5) c6) c7) c8) c9).2
                  · refine am_s_iconst am_cc1 dc241_6.1.2.2 ?_
                    refine am_s_goto rfl dc241_6.2.1.1 ?_
                    refine am_s_ic_ne dc241_6.2.2.1 rfl (fun _ => ?_) (fun z => absurd z (by decide))
                    refine am_s_iload_n rfl dc241_7.2.1 ?_
                    refine am_s_ireturn dc241_7.2.2 rfl (am_bkI ?_)
                    refine am_s_iastore dc240_6.2.2.1 rfl ((vi_t (vi_t (vi_f (vi_f (vi_f (vi_f (vi_f (vi_t (vi_f q c1).2 c2).2.2 c3) c4) c5) c6) c7) c8) (Decidable.not_not.mp c9)).1) rfl ?_
                    refine am_s_iinc (ls' := [some (.ref 163), some (.int (x1 + (-1))), some (.int (x2 + 1)), some (.int (I 174 (Int32.toNatClampNeg x2)))]) am_cc1 rfl rfl dc240_6.2.2.2 ?_
                    refine am_s_goto rfl dc240_7.1.1 ?_
                    exact (vi_t (vi_t (vi_f (vi_f (vi_f (vi_f (vi_f (vi_t (vi_f q c1).2 c2).2.2 c3) c4) c5) c6) c7) c8) (Decidable.not_not.mp c9)).2
                · refine am_s_iconst am_cc1 dc241_5.2.1.2 ?_
                  refine am_s_goto rfl dc241_5.2.2.1 ?_
                  refine am_s_iload_n rfl dc241_6.1.1.1 ?_
                  refine am_s_bipush am_cb6 dc241_6.1.1.2 ?_
                  refine am_s_ic_ne dc241_6.1.2.1 rfl (fun c9 => ?_) (fun c9 => ?_)
                  · refine am_s_iconst am_cc0 dc241_6.2.1.2 ?_
                    refine am_s_ic_ne dc241_6.2.2.1 rfl (fun _ => ?_) (fun z => absurd z (by decide))
                    refine am_s_iload_n rfl dc241_7.2.1 ?_
                    refine am_s_ireturn dc241_7.2.2 rfl (am_bkI ?_)
                    refine am_s_iastore dc240_6.2.2.1 rfl ((vi_f (vi_f (vi_f (vi_f (vi_f (vi_f (vi_f (vi_t (vi_f q c1).2 c2).2.2 c3) c4) c5) c6) c7) c8) c9).1) rfl ?_
                    refine am_s_iinc (ls' := [some (.ref 163), some (.int (x1 + (-1))), some (.int (x2 + 1)), some (.int (I 174 (Int32.toNatClampNeg x2)))]) am_cc1 rfl rfl dc240_6.2.2.2 ?_
                    refine am_s_goto rfl dc240_7.1.1 ?_
                    exact (vi_f (vi_f (vi_f (vi_f (vi_f (vi_f (vi_f (vi_t (vi_f q c1).2 c2).2.2 c3) c4) c5) c6) c7) c8) c9).2
                  · refine am_s_iconst am_cc1 dc241_6.1.2.2 ?_
                    refine am_s_goto rfl dc241_6.2.1.1 ?_
                    refine am_s_ic_ne dc241_6.2.2.1 rfl (fun z => absurd z (by decide)) (fun _ => ?_)
                    refine am_s_iload_n rfl dc241_6.2.2.2 ?_
                    refine am_s_goto rfl dc241_7.1 ?_
                    refine am_s_ireturn dc241_7.2.2 rfl (am_bkI ?_)
                    refine am_s_iastore dc240_6.2.2.1 rfl ((vi_t (vi_f (vi_f (vi_f (vi_f (vi_f (vi_f (vi_t (vi_f q c1).2 c2).2.2 c3) c4) c5) c6) c7) c8) (Decidable.not_not.mp c9)).1) rfl ?_
                    refine am_s_iinc (ls' := [some (.ref 163), some (.int (x1 + (-1))), some (.int (x2 + 1)), some (.int (I 174 (Int32.toNatClampNeg x2)))]) am_cc1 rfl rfl dc240_6.2.2.2 ?_
                    refine am_s_goto rfl dc240_7.1.1 ?_
                    exact (vi_t (vi_f (vi_f (vi_f (vi_f (vi_f (vi_f (vi_t (vi_f q c1).2 c2).2.2 c3) c4) c5) c6) c7) c8) (Decidable.not_not.mp c9)).2
              · refine am_s_iload_n rfl dc241_3.1.2.2 ?_
                refine am_s_if_ne dc241_3.2.1.1 rfl (fun c8 => ?_) (fun c8 => ?_)
                · refine am_s_iload_n rfl dc241_3.2.2.2 ?_
                  refine am_s_iconst am_cc5 dc241_4.1.1.1 ?_
                  refine am_s_ic_ne dc241_4.1.1.2 rfl (fun _ => ?_) (fun z => absurd c6 z)
                  refine am_s_iload_n rfl dc241_4.2.2.1 ?_
                  refine am_s_iload_n rfl dc241_4.2.2.2 ?_
                  refine am_s_irem ((vi_f (vi_t (vi_f (vi_f (vi_f (vi_f (vi_t (vi_f q c1).2 c2).2.2 c3) c4) c5) c6) (Decidable.not_not.mp c7)) c8).1) dc241_5.1.1.1 ?_
                  refine am_s_ireturn dc241_5.1.1.2 rfl (am_bkI ?_)
                  refine am_s_iastore dc240_6.2.2.1 rfl ((vi_f (vi_t (vi_f (vi_f (vi_f (vi_f (vi_t (vi_f q c1).2 c2).2.2 c3) c4) c5) c6) (Decidable.not_not.mp c7)) c8).2.1) rfl ?_
                  refine am_s_iinc (ls' := [some (.ref 163), some (.int (x1 + (-1))), some (.int (x2 + 1)), some (.int (I 174 (Int32.toNatClampNeg x2)))]) am_cc1 rfl rfl dc240_6.2.2.2 ?_
                  refine am_s_goto rfl dc240_7.1.1 ?_
                  exact (vi_f (vi_t (vi_f (vi_f (vi_f (vi_f (vi_t (vi_f q c1).2 c2).2.2 c3) c4) c5) c6) (Decidable.not_not.mp c7)) c8).2.2
                · refine am_s_iconst am_cc0 dc241_3.2.1.2 ?_
                  refine am_s_goto rfl dc241_3.2.2.1 ?_
                  refine am_s_ireturn dc241_5.1.1.2 rfl (am_bkI ?_)
                  refine am_s_iastore dc240_6.2.2.1 rfl ((vi_t (vi_t (vi_f (vi_f (vi_f (vi_f (vi_t (vi_f q c1).2 c2).2.2 c3) c4) c5) c6) (Decidable.not_not.mp c7)) (Decidable.not_not.mp c8)).1) rfl ?_
                  refine am_s_iinc (ls' := [some (.ref 163), some (.int (x1 + (-1))), some (.int (x2 + 1)), some (.int (I 174 (Int32.toNatClampNeg x2)))]) am_cc1 rfl rfl dc240_6.2.2.2 ?_
                  refine am_s_goto rfl dc240_7.1.1 ?_
                  exact (vi_t (vi_t (vi_f (vi_f (vi_f (vi_f (vi_t (vi_f q c1).2 c2).2.2 c3) c4) c5) c6) (Decidable.not_not.mp c7)) (Decidable.not_not.mp c8)).2
          · refine am_s_iload_n rfl dc241_2.1.1.2 ?_
            refine am_s_iload_n rfl dc241_2.1.2.1 ?_
            refine am_s_imul dc241_2.1.2.2 ?_
            refine am_s_ireturn dc241_2.2.1.1 rfl (am_bkI ?_)
            refine am_s_iastore dc240_6.2.2.1 rfl ((vi_t (vi_f (vi_f (vi_t (vi_f q c1).2 c2).2.2 c3) c4) (Decidable.not_not.mp c5)).1) rfl ?_
            refine am_s_iinc (ls' := [some (.ref 163), some (.int (x1 + (-1))), some (.int (x2 + 1)), some (.int (I 174 (Int32.toNatClampNeg x2)))]) am_cc1 rfl rfl dc240_6.2.2.2 ?_
            refine am_s_goto rfl dc240_7.1.1 ?_
            exact (vi_t (vi_f (vi_f (vi_t (vi_f q c1).2 c2).2.2 c3) c4) (Decidable.not_not.mp c5)).2
        · refine am_s_iload_n rfl dc241_1.1.2.1 ?_
          refine am_s_iload_n rfl dc241_1.1.2.2 ?_
          refine am_s_isub dc241_1.2.1.1 ?_
          refine am_s_ireturn dc241_1.2.1.2 rfl (am_bkI ?_)
          refine am_s_iastore dc240_6.2.2.1 rfl ((vi_t (vi_f (vi_t (vi_f q c1).2 c2).2.2 c3) (Decidable.not_not.mp c4)).1) rfl ?_
          refine am_s_iinc (ls' := [some (.ref 163), some (.int (x1 + (-1))), some (.int (x2 + 1)), some (.int (I 174 (Int32.toNatClampNeg x2)))]) am_cc1 rfl rfl dc240_6.2.2.2 ?_
          refine am_s_goto rfl dc240_7.1.1 ?_
          exact (vi_t (vi_f (vi_t (vi_f q c1).2 c2).2.2 c3) (Decidable.not_not.mp c4)).2
      · refine am_s_iload_n rfl dc241_0.1.2.2 ?_
        refine am_s_iload_n rfl dc241_0.2.1.1 ?_
        refine am_s_iadd dc241_0.2.1.2 ?_
        refine am_s_ireturn dc241_0.2.2.1 rfl (am_bkI ?_)
        refine am_s_iastore dc240_6.2.2.1 rfl ((vi_t (vi_t (vi_f q c1).2 c2).2.2 (Decidable.not_not.mp c3)).1) rfl ?_
        refine am_s_iinc (ls' := [some (.ref 163), some (.int (x1 + (-1))), some (.int (x2 + 1)), some (.int (I 174 (Int32.toNatClampNeg x2)))]) am_cc1 rfl rfl dc240_6.2.2.2 ?_
        refine am_s_goto rfl dc240_7.1.1 ?_
        exact (vi_t (vi_t (vi_f q c1).2 c2).2.2 (Decidable.not_not.mp c3)).2
    · refine am_s_aload_n rfl dc240_2.1.1.1 ?_
      refine am_s_getR (r := 176) dc240_2.1.1.2 rfl rfl rfl (hp _ _ _ rfl) ?_
      refine am_s_iload_n rfl dc240_2.1.2.1 ?_
      refine am_s_iload_n rfl dc240_2.1.2.2 ?_
      refine am_s_if_ne dc240_2.2.1.1 rfl (fun c3 => ?_) (fun c3 => ?_)
      · refine am_s_aload_n rfl dc240_3.1.2.1 ?_
        refine am_s_getR (r := 177) dc240_3.1.2.2 rfl rfl rfl (hp _ _ _ rfl) ?_
        refine am_s_aload_n rfl dc240_3.2.1.1 ?_
        refine am_s_getR (r := 175) dc240_3.2.1.2 rfl rfl rfl (hp _ _ _ rfl) ?_
        refine am_s_iload_n rfl dc240_3.2.2.1 ?_
        refine am_x_iaload (x := I 175 (Int32.toNatClampNeg x2)) dc240_3.2.2.2 rfl ((vi_f (vi_f (vi_f q c1).2 c2) c3).1) rfl rfl ?_
        refine am_x_iaload (x := I 177 (Int32.toNatClampNeg (I 175 (Int32.toNatClampNeg x2)))) dc240_4.1.1.1 rfl ((vi_f (vi_f (vi_f q c1).2 c2) c3).2.1) rfl rfl ?_
        refine am_s_iastore dc240_4.1.1.2 rfl ((vi_f (vi_f (vi_f q c1).2 c2) c3).2.2.1) rfl ?_
        refine am_s_iinc (ls' := [some (.ref 163), some (.int (x1 + 1)), some (.int x2), some (.int (I 174 (Int32.toNatClampNeg x2)))]) am_cc1 rfl rfl dc240_4.1.2.1 ?_
        refine am_s_goto rfl dc240_4.1.2.2 ?_
        refine am_s_iinc (ls' := [some (.ref 163), some (.int (x1 + 1)), some (.int (x2 + 1)), some (.int (I 174 (Int32.toNatClampNeg x2)))]) am_cc1 rfl rfl dc240_6.2.2.2 ?_
        refine am_s_goto rfl dc240_7.1.1 ?_
        exact (vi_f (vi_f (vi_f q c1).2 c2) c3).2.2.2
      · refine am_s_aload_n rfl dc240_2.2.1.2 ?_
        refine am_s_getR (r := 175) dc240_2.2.2.1 rfl rfl rfl (hp _ _ _ rfl) ?_
        refine am_s_iload_n rfl dc240_2.2.2.2 ?_
        refine am_x_iaload (x := I 175 (Int32.toNatClampNeg x2)) dc240_3.1.1.1 rfl ((vi_t (vi_f (vi_f q c1).2 c2) (Decidable.not_not.mp c3)).1) rfl rfl ?_
        refine am_s_goto rfl dc240_3.1.1.2 ?_
        refine am_s_iastore dc240_4.1.1.2 rfl ((vi_t (vi_f (vi_f q c1).2 c2) (Decidable.not_not.mp c3)).2.1) rfl ?_
        refine am_s_iinc (ls' := [some (.ref 163), some (.int (x1 + 1)), some (.int x2), some (.int (I 174 (Int32.toNatClampNeg x2)))]) am_cc1 rfl rfl dc240_4.1.2.1 ?_
        refine am_s_goto rfl dc240_4.1.2.2 ?_
        refine am_s_iinc (ls' := [some (.ref 163), some (.int (x1 + 1)), some (.int (x2 + 1)), some (.int (I 174 (Int32.toNatClampNeg x2)))]) am_cc1 rfl rfl dc240_6.2.2.2 ?_
        refine am_s_goto rfl dc240_7.1.1 ?_
        exact (vi_t (vi_f (vi_f q c1).2 c2) (Decidable.not_not.mp c3)).2.2
-- both (III)I
theorem v241_0 {sc : Option (Nat × (Nat → Int32))} {d k n : Nat} {P : am_O → Prop} {I : am_I} {J : am_J} {Pf : am_R} (hp : am_PF Pf) {x0 : Int32} {x1 : Int32} {x2 : Int32} (q : (if x0 = 2 then (P (.inl (some (.int (x1 + x2))), (am_SH, I, J, Pf), k, n)) else (if x0 = 3 then (P (.inl (some (.int (x1 - x2))), (am_SH, I, J, Pf), k, n)) else (if x0 = 4 then (P (.inl (some (.int (x1 * x2))), (am_SH, I, J, Pf), k, n)) else (if x0 = 5 then (if x2 = 0 then (P (.inl (some (.int 0)), (am_SH, I, J, Pf), k, n)) else (¬ x2 = 0) ∧ (P (.inl (some (.int (x1 / x2))), (am_SH, I, J, Pf), k, n))) else (if x0 = 8 then (if x2 = 0 then (P (.inl (some (.int 0)), (am_SH, I, J, Pf), k, n)) else (¬ x2 = 0) ∧ (P (.inl (some (.int (x1 - x1 / x2 * x2))), (am_SH, I, J, Pf), k, n))) else (if x2 ≤ x1 then (if x0 = 6 then (P (.inl (some (.int x2)), (am_SH, I, J, Pf), k, n)) else (P (.inl (some (.int x1)), (am_SH, I, J, Pf), k, n))) else (if x0 = 6 then (P (.inl (some (.int x1)), (am_SH, I, J, Pf), k, n)) else (P (.inl (some (.int x2)), (am_SH, I, J, Pf), k, n)))))))))) : am_go sc d 241 (0, [some (.int x0), some (.int x1), some (.int x2)], [], (am_SH, I, J, Pf), k, n) P := by
  refine am_s_iload_n rfl dc241_0.1.1.1 ?_
  refine am_s_iconst am_cc2 dc241_0.1.1.2 ?_
  refine am_s_ic_ne dc241_0.1.2.1 rfl (fun c1 => ?_) (fun c1 => ?_)
  · refine am_s_iload_n rfl dc241_0.2.2.2 ?_
    refine am_s_iconst am_cc3 dc241_1.1.1.1 ?_
    refine am_s_ic_ne dc241_1.1.1.2 rfl (fun c2 => ?_) (fun c2 => ?_)
    · refine am_s_iload_n rfl dc241_1.2.2.1 ?_
      refine am_s_iconst am_cc4 dc241_1.2.2.2 ?_
      refine am_s_ic_ne dc241_2.1.1.1 rfl (fun c3 => ?_) (fun c3 => ?_)
      · refine am_s_iload_n rfl dc241_2.2.1.2 ?_
        refine am_s_iconst am_cc5 dc241_2.2.2.1 ?_
        refine am_s_ic_eq dc241_2.2.2.2 rfl (fun c4 => ?_) (fun c4 => ?_)
        · refine am_s_iload_n rfl dc241_3.1.2.2 ?_
          refine am_s_if_ne dc241_3.2.1.1 rfl (fun c5 => ?_) (fun c5 => ?_)
          · refine am_s_iload_n rfl dc241_3.2.2.2 ?_
            refine am_s_iconst am_cc5 dc241_4.1.1.1 ?_
            refine am_s_ic_ne dc241_4.1.1.2 rfl (fun z => absurd c4 z) (fun _ => ?_)
            refine am_s_iload_n rfl dc241_4.1.2.1 ?_
            refine am_s_iload_n rfl dc241_4.1.2.2 ?_
            refine am_s_idiv ((vi_f (vi_t (vi_f (vi_f (vi_f q c1) c2) c3) c4) c5).1) dc241_4.2.1.1 ?_
            refine am_s_goto rfl dc241_4.2.1.2 ?_
            exact am_s_ireturn dc241_5.1.1.2 rfl ((vi_f (vi_t (vi_f (vi_f (vi_f q c1) c2) c3) c4) c5).2)
          · refine am_s_iconst am_cc0 dc241_3.2.1.2 ?_
            refine am_s_goto rfl dc241_3.2.2.1 ?_
            exact am_s_ireturn dc241_5.1.1.2 rfl ((vi_t (vi_t (vi_f (vi_f (vi_f q c1) c2) c3) c4) (Decidable.not_not.mp c5)))
        · refine am_s_iload_n rfl dc241_3.1.1.1 ?_
          refine am_s_bipush am_cb8 dc241_3.1.1.2 ?_
          refine am_s_ic_ne dc241_3.1.2.1 rfl (fun c5 => ?_) (fun c5 => ?_)
          · refine am_s_iload_n rfl dc241_5.1.2.1 ?_
            refine am_s_iload_n rfl dc241_5.1.2.2 ?_
            refine am_s_ic_ge dc241_5.2.1.1 rfl (fun c6 => ?_) (fun c6 => ?_)
            · refine am_s_iconst am_cc0 dc241_5.2.2.2 ?_
              refine am_s_iload_n rfl dc241_6.1.1.1 ?_
              refine am_s_bipush am_cb6 dc241_6.1.1.2 ?_
              refine am_s_ic_ne dc241_6.1.2.1 rfl (fun c7 => ?_) (fun c7 => ?_)
              · refine am_s_iconst am_cc0 dc241_6.2.1.2 ?_
                refine am_s_ic_ne dc241_6.2.2.1 rfl (fun z => absurd z (by decide)) (fun _ => ?_)
                refine am_s_iload_n rfl dc241_6.2.2.2 ?_
                refine am_s_goto rfl dc241_7.1 ?_
                exact am_s_ireturn dc241_7.2.2 rfl ((vi_f (vi_t (vi_f (vi_f (vi_f (vi_f (vi_f q c1) c2) c3) c4) c5) c6) c7))
              · refine am_s_iconst am_cc1 dc241_6.1.2.2 ?_
                refine am_s_goto rfl dc241_6.2.1.1 ?_
                refine am_s_ic_ne dc241_6.2.2.1 rfl (fun _ => ?_) (fun z => absurd z (by decide))
                refine am_s_iload_n rfl dc241_7.2.1 ?_
                exact am_s_ireturn dc241_7.2.2 rfl ((vi_t (vi_t (vi_f (vi_f (vi_f (vi_f (vi_f q c1) c2) c3) c4) c5) c6) (Decidable.not_not.mp c7)))
            · refine am_s_iconst am_cc1 dc241_5.2.1.2 ?_
              refine am_s_goto rfl dc241_5.2.2.1 ?_
              refine am_s_iload_n rfl dc241_6.1.1.1 ?_
              refine am_s_bipush am_cb6 dc241_6.1.1.2 ?_
              refine am_s_ic_ne dc241_6.1.2.1 rfl (fun c7 => ?_) (fun c7 => ?_)
              · refine am_s_iconst am_cc0 dc241_6.2.1.2 ?_
                refine am_s_ic_ne dc241_6.2.2.1 rfl (fun _ => ?_) (fun z => absurd z (by decide))
                refine am_s_iload_n rfl dc241_7.2.1 ?_
                exact am_s_ireturn dc241_7.2.2 rfl ((vi_f (vi_f (vi_f (vi_f (vi_f (vi_f (vi_f q c1) c2) c3) c4) c5) c6) c7))
              · refine am_s_iconst am_cc1 dc241_6.1.2.2 ?_
                refine am_s_goto rfl dc241_6.2.1.1 ?_
                refine am_s_ic_ne dc241_6.2.2.1 rfl (fun z => absurd z (by decide)) (fun _ => ?_)
                refine am_s_iload_n rfl dc241_6.2.2.2 ?_
                refine am_s_goto rfl dc241_7.1 ?_
                exact am_s_ireturn dc241_7.2.2 rfl ((vi_t (vi_f (vi_f (vi_f (vi_f (vi_f (vi_f q c1) c2) c3) c4) c5) c6) (Decidable.not_not.mp c7)))
          · refine am_s_iload_n rfl dc241_3.1.2.2 ?_
            refine am_s_if_ne dc241_3.2.1.1 rfl (fun c6 => ?_) (fun c6 => ?_)
            · refine am_s_iload_n rfl dc241_3.2.2.2 ?_
              refine am_s_iconst am_cc5 dc241_4.1.1.1 ?_
              refine am_s_ic_ne dc241_4.1.1.2 rfl (fun _ => ?_) (fun z => absurd c4 z)
              refine am_s_iload_n rfl dc241_4.2.2.1 ?_
              refine am_s_iload_n rfl dc241_4.2.2.2 ?_
              refine am_s_irem ((vi_f (vi_t (vi_f (vi_f (vi_f (vi_f q c1) c2) c3) c4) (Decidable.not_not.mp c5)) c6).1) dc241_5.1.1.1 ?_
              exact am_s_ireturn dc241_5.1.1.2 rfl ((vi_f (vi_t (vi_f (vi_f (vi_f (vi_f q c1) c2) c3) c4) (Decidable.not_not.mp c5)) c6).2)
            · refine am_s_iconst am_cc0 dc241_3.2.1.2 ?_
              refine am_s_goto rfl dc241_3.2.2.1 ?_
              exact am_s_ireturn dc241_5.1.1.2 rfl ((vi_t (vi_t (vi_f (vi_f (vi_f (vi_f q c1) c2) c3) c4) (Decidable.not_not.mp c5)) (Decidable.not_not.mp c6)))
      · refine am_s_iload_n rfl dc241_2.1.1.2 ?_
        refine am_s_iload_n rfl dc241_2.1.2.1 ?_
        refine am_s_imul dc241_2.1.2.2 ?_
        exact am_s_ireturn dc241_2.2.1.1 rfl ((vi_t (vi_f (vi_f q c1) c2) (Decidable.not_not.mp c3)))
    · refine am_s_iload_n rfl dc241_1.1.2.1 ?_
      refine am_s_iload_n rfl dc241_1.1.2.2 ?_
      refine am_s_isub dc241_1.2.1.1 ?_
      exact am_s_ireturn dc241_1.2.1.2 rfl ((vi_t (vi_f q c1) (Decidable.not_not.mp c2)))
  · refine am_s_iload_n rfl dc241_0.1.2.2 ?_
    refine am_s_iload_n rfl dc241_0.2.1.1 ?_
    refine am_s_iadd dc241_0.2.1.2 ?_
    exact am_s_ireturn dc241_0.2.2.1 rfl ((vi_t q (Decidable.not_not.mp c1)))
-- worthOf (IIIIII)I
theorem v242_0 {sc : Option (Nat × (Nat → Int32))} {d k n : Nat} {P : am_O → Prop} {I : am_I} {J : am_J} {Pf : am_R} (hp : am_PF Pf) {x1 : Int32} {x2 : Int32} {x3 : Int32} {x4 : Int32} {x5 : Int32} {x6 : Int32} (q : (if (I 163 29) = 0 then (P (.inl (some (.int 1)), (am_SH, am_u (am_u (am_u (am_u (am_u (am_u I 177 0 x1) 177 1 x2) 177 2 x3) 177 3 x4) 177 4 x5) 177 5 x6, J, Pf), k, n)) else (am_mth d 240 [.ref 163] (am_SH, am_u (am_u (am_u (am_u (am_u (am_u I 177 0 x1) 177 1 x2) 177 2 x3) 177 3 x4) 177 4 x5) 177 5 x6, J, Pf) (am_af sc d 242 57 [some (.ref 163), some (.int x1), some (.int x2), some (.int x3), some (.int x4), some (.int x5), some (.int x6)] [.ref 163] [] (am_SH, am_u (am_u (am_u (am_u (am_u (am_u I 177 0 x1) 177 1 x2) 177 2 x3) 177 3 x4) 177 4 x5) 177 5 x6, J, Pf) k n true P)))) : am_go sc d 242 (0, [some (.ref 163), some (.int x1), some (.int x2), some (.int x3), some (.int x4), some (.int x5), some (.int x6)], [], (am_SH, I, J, Pf), k, n) P := by
  refine am_s_aload_n rfl dc242_0.1.1.1 ?_
  refine am_s_getR (r := 177) dc242_0.1.1.2 rfl rfl rfl (hp _ _ _ rfl) ?_
  refine am_s_iconst am_cc0 dc242_0.1.2.1 ?_
  refine am_s_iload_n rfl dc242_0.1.2.2 ?_
  refine am_s_iastore dc242_0.2.1.1 rfl (by decide +kernel) am_cN0 ?_
  refine am_s_aload_n rfl dc242_0.2.1.2 ?_
  refine am_s_getR (r := 177) dc242_0.2.2.1 rfl rfl rfl (hp _ _ _ rfl) ?_
  refine am_s_iconst am_cc1 dc242_0.2.2.2 ?_
  refine am_s_iload_n rfl dc242_1.1.1.1 ?_
  refine am_s_iastore dc242_1.1.1.2 rfl (by decide +kernel) am_cN1 ?_
  refine am_s_aload_n rfl dc242_1.1.2.1 ?_
  refine am_s_getR (r := 177) dc242_1.1.2.2 rfl rfl rfl (hp _ _ _ rfl) ?_
  refine am_s_iconst am_cc2 dc242_1.2.1.1 ?_
  refine am_s_iload_n rfl dc242_1.2.1.2 ?_
  refine am_s_iastore dc242_1.2.2.1 rfl (by decide +kernel) am_cN2 ?_
  refine am_s_aload_n rfl dc242_1.2.2.2 ?_
  refine am_s_getR (r := 177) dc242_2.1.1.1 rfl rfl rfl (hp _ _ _ rfl) ?_
  refine am_s_iconst am_cc3 dc242_2.1.1.2 ?_
  refine am_s_iload rfl dc242_2.1.2.1 ?_
  refine am_s_iastore dc242_2.1.2.2 rfl (by decide +kernel) am_cN3 ?_
  refine am_s_aload_n rfl dc242_2.2.1.1 ?_
  refine am_s_getR (r := 177) dc242_2.2.1.2 rfl rfl rfl (hp _ _ _ rfl) ?_
  refine am_s_iconst am_cc4 dc242_2.2.2.1 ?_
  refine am_s_iload rfl dc242_2.2.2.2 ?_
  refine am_s_iastore dc242_3.1.1.1 rfl (by decide +kernel) am_cN4 ?_
  refine am_s_aload_n rfl dc242_3.1.1.2 ?_
  refine am_s_getR (r := 177) dc242_3.1.2.1 rfl rfl rfl (hp _ _ _ rfl) ?_
  refine am_s_iconst am_cc5 dc242_3.1.2.2 ?_
  refine am_s_iload rfl dc242_3.2.1.1 ?_
  refine am_s_iastore dc242_3.2.1.2 rfl (by decide +kernel) am_cN5 ?_
  refine am_s_aload_n rfl dc242_3.2.2.1 ?_
  refine am_x_getI (x := I 163 29) dc242_3.2.2.2 rfl rfl (Or.inl rfl) rfl ?_
  refine am_s_if_ne dc242_4.1.1 rfl (fun c1 => ?_) (fun c1 => ?_)
  · refine am_s_aload_n rfl dc242_4.2.1 ?_
    exact am_s_virtual true dc242_4.2.2.1 rfl (by decide) rfl rfl rfl ((vi_f q c1))
  · refine am_s_iconst am_cc1 dc242_4.1.2.1 ?_
    refine am_s_goto rfl dc242_4.1.2.2 ?_
    exact am_s_ireturn dc242_4.2.2.2 rfl ((vi_t q (Decidable.not_not.mp c1)))
theorem v242_60 {sc : Option (Nat × (Nat → Int32))} {d k n : Nat} {P : am_O → Prop} {I : am_I} {J : am_J} {Pf : am_R} (hp : am_PF Pf) {l0 : Option Value} {l1 : Option Value} {l2 : Option Value} {l3 : Option Value} {l4 : Option Value} {l5 : Option Value} {l6 : Option Value} {s0 : Int32} (q : (P (.inl (some (.int s0)), (am_SH, I, J, Pf), k, n))) : am_go sc d 242 (60, [l0, l1, l2, l3, l4, l5, l6], [.int s0], (am_SH, I, J, Pf), k, n) P := by
  exact am_s_ireturn dc242_4.2.2.2 rfl (q)
-- tellsStep (III)V
theorem v243_0 {sc : Option (Nat × (Nat → Int32))} {d k n : Nat} {P : am_O → Prop} {I : am_I} {J : am_J} {Pf : am_R} (hp : am_PF Pf) {x1 : Int32} {x2 : Int32} {x3 : Int32} {l4 : Option Value} (q : (if (I 163 5) = (-1) then (am_in (I 163 33) 600 = true) ∧ (am_in ((I 163 33) + 1) 600 = true) ∧ (am_in ((I 163 33) + 2) 600 = true) ∧ (if x1 = 0 then (am_in ((I 163 33) + 3) 600 = true) ∧ (am_go sc (d + 1) 243 (68, [some (.ref 163), some (.int x1), some (.int x2), some (.int x3), some (.int 0)], [], (am_SH, am_u (am_u (am_u (am_u I 178 (Int32.toNatClampNeg (I 163 33)) x1) 178 (Int32.toNatClampNeg ((I 163 33) + 1)) x2) 178 (Int32.toNatClampNeg ((I 163 33) + 2)) x3) 178 (Int32.toNatClampNeg ((I 163 33) + 3)) (I 163 14), J, Pf), k, n) P) else (am_in ((I 163 33) + 3) 600 = true) ∧ (am_go sc (d + 1) 243 (68, [some (.ref 163), some (.int x1), some (.int x2), some (.int x3), some (.int 0)], [], (am_SH, am_u (am_u (am_u (am_u I 178 (Int32.toNatClampNeg (I 163 33)) x1) 178 (Int32.toNatClampNeg ((I 163 33) + 1)) x2) 178 (Int32.toNatClampNeg ((I 163 33) + 2)) x3) 178 (Int32.toNatClampNeg ((I 163 33) + 3)) 0, J, Pf), k, n) P)) else (P (.inl none, (am_SH, I, J, Pf), k, n)))) : am_go sc (d + 1) 243 (0, [some (.ref 163), some (.int x1), some (.int x2), some (.int x3), l4], [], (am_SH, I, J, Pf), k, n) P := by
  refine am_s_aload_n rfl dc243_0.1.1.1 ?_
  refine am_s_virtual true dc243_0.1.1.2 rfl (by decide) rfl rfl rfl (am_mth_of rfl rfl ?_)
  refine am_s_aload_n rfl dc193_0.1.1.1 ?_
  refine am_x_getI (x := I 163 5) dc193_0.1.1.2 rfl rfl (Or.inl rfl) rfl ?_
  refine am_s_iconst am_ccm1 dc193_0.1.2.1 ?_
  refine am_s_ic_ne dc193_0.1.2.2 rfl (fun c1 => ?_) (fun c1 => ?_)
  · refine am_s_iconst am_cc0 dc193_0.2.2.1 ?_
    refine am_s_zreturn dc193_0.2.2.2 rfl (by decide) (am_bkI ?_)
    refine am_s_if_ne dc243_0.1.2.1 rfl (fun z => absurd z (by decide)) (fun _ => ?_)
    exact am_s_return dc243_0.1.2.2 rfl ((vi_f q c1))
  · refine am_s_iconst am_cc1 dc193_0.2.1.1 ?_
    refine am_s_goto rfl dc193_0.2.1.2 ?_
    refine am_s_zreturn dc193_0.2.2.2 rfl (by decide) (am_bkI ?_)
    refine am_s_if_ne dc243_0.1.2.1 rfl (fun _ => ?_) (fun z => absurd z (by decide))
    refine am_s_aload_n rfl dc243_0.2.1.1 ?_
    refine am_s_getR (r := 178) dc243_0.2.1.2 rfl rfl rfl (hp _ _ _ rfl) ?_
    refine am_s_aload_n rfl dc243_0.2.2.1 ?_
    refine am_x_getI (x := I 163 33) dc243_0.2.2.2 rfl rfl (Or.inl rfl) rfl ?_
    refine am_s_iload_n rfl dc243_1.1.1.1 ?_
    refine am_s_iastore dc243_1.1.1.2 rfl ((vi_t q (Decidable.not_not.mp c1)).1) rfl ?_
    refine am_s_aload_n rfl dc243_1.1.2.1 ?_
    refine am_s_getR (r := 178) dc243_1.1.2.2 rfl rfl rfl (hp _ _ _ rfl) ?_
    refine am_s_aload_n rfl dc243_1.2.1.1 ?_
    refine am_x_getI (x := I 163 33) dc243_1.2.1.2 rfl rfl (Or.inl rfl) rfl ?_
    refine am_s_iconst am_cc1 dc243_1.2.2.1 ?_
    refine am_s_iadd dc243_1.2.2.2 ?_
    refine am_s_iload_n rfl dc243_2.1.1.1 ?_
    refine am_s_iastore dc243_2.1.1.2 rfl ((vi_t q (Decidable.not_not.mp c1)).2.1) rfl ?_
    refine am_s_aload_n rfl dc243_2.1.2.1 ?_
    refine am_s_getR (r := 178) dc243_2.1.2.2 rfl rfl rfl (hp _ _ _ rfl) ?_
    refine am_s_aload_n rfl dc243_2.2.1.1 ?_
    refine am_x_getI (x := I 163 33) dc243_2.2.1.2 rfl rfl (Or.inl rfl) rfl ?_
    refine am_s_iconst am_cc2 dc243_2.2.2.1 ?_
    refine am_s_iadd dc243_2.2.2.2 ?_
    refine am_s_iload_n rfl dc243_3.1.1.1 ?_
    refine am_s_iastore dc243_3.1.1.2 rfl ((vi_t q (Decidable.not_not.mp c1)).2.2.1) rfl ?_
    refine am_s_aload_n rfl dc243_3.1.2.1 ?_
    refine am_s_getR (r := 178) dc243_3.1.2.2 rfl rfl rfl (hp _ _ _ rfl) ?_
    refine am_s_aload_n rfl dc243_3.2.1.1 ?_
    refine am_x_getI (x := I 163 33) dc243_3.2.1.2 rfl rfl (Or.inl rfl) rfl ?_
    refine am_s_iconst am_cc3 dc243_3.2.2.1 ?_
    refine am_s_iadd dc243_3.2.2.2 ?_
    refine am_s_iload_n rfl dc243_4.1.1.1 ?_
    refine am_s_if_ne dc243_4.1.1.2 rfl (fun c2 => ?_) (fun c2 => ?_)
    · refine am_s_iconst am_cc0 dc243_4.2.1.2 ?_
      refine am_s_iastore dc243_4.2.2.1 rfl ((vi_f (vi_t q (Decidable.not_not.mp c1)).2.2.2 c2).1) rfl ?_
      refine am_s_iconst am_cc0 dc243_4.2.2.2 ?_
      refine am_s_istore (ls' := [some (.ref 163), some (.int x1), some (.int x2), some (.int x3), some (.int 0)]) rfl rfl dc243_5.1.1.1 ?_
      exact (vi_f (vi_t q (Decidable.not_not.mp c1)).2.2.2 c2).2
    · refine am_s_aload_n rfl dc243_4.1.2.1 ?_
      refine am_x_getI (x := I 163 14) dc243_4.1.2.2 rfl rfl (Or.inl rfl) rfl ?_
      refine am_s_goto rfl dc243_4.2.1.1 ?_
      refine am_s_iastore dc243_4.2.2.1 rfl ((vi_t (vi_t q (Decidable.not_not.mp c1)).2.2.2 (Decidable.not_not.mp c2)).1) rfl ?_
      refine am_s_iconst am_cc0 dc243_4.2.2.2 ?_
      refine am_s_istore (ls' := [some (.ref 163), some (.int x1), some (.int x2), some (.int x3), some (.int 0)]) rfl rfl dc243_5.1.1.1 ?_
      exact (vi_t (vi_t q (Decidable.not_not.mp c1)).2.2.2 (Decidable.not_not.mp c2)).2
theorem v243_68 {sc : Option (Nat × (Nat → Int32))} {d k n : Nat} {P : am_O → Prop} {I : am_I} {J : am_J} {Pf : am_R} (hp : am_PF Pf) {x1 : Int32} {l2 : Option Value} {l3 : Option Value} {x4 : Int32} (hl3 : am_k1 l3 = true) (q : (if 8 ≤ x4 then (P (.inl none, (am_SH, am_u I 163 33 ((I 163 33) + 12), J, Pf), k, n)) else (if x1 = 0 then (if (I 163 14) ≤ x4 then (am_in (((I 163 33) + 4) + x4) 600 = true) ∧ (am_go sc d 243 (68, [some (.ref 163), some (.int x1), l2, l3, some (.int (x4 + 1))], [], (am_SH, am_u I 178 (Int32.toNatClampNeg (((I 163 33) + 4) + x4)) 0, J, Pf), k, n) P) else (am_in x4 600 = true) ∧ (am_in (((I 163 33) + 4) + x4) 600 = true) ∧ (am_go sc d 243 (68, [some (.ref 163), some (.int x1), l2, l3, some (.int (x4 + 1))], [], (am_SH, am_u I 178 (Int32.toNatClampNeg (((I 163 33) + 4) + x4)) (I 168 (Int32.toNatClampNeg x4)), J, Pf), k, n) P)) else (am_in (((I 163 33) + 4) + x4) 600 = true) ∧ (am_go sc d 243 (68, [some (.ref 163), some (.int x1), l2, l3, some (.int (x4 + 1))], [], (am_SH, am_u I 178 (Int32.toNatClampNeg (((I 163 33) + 4) + x4)) 0, J, Pf), k, n) P)))) : am_go sc d 243 (68, [some (.ref 163), some (.int x1), l2, l3, some (.int x4)], [], (am_SH, I, J, Pf), k, n) P := by
  refine am_s_iload rfl dc243_5.1.1.2 ?_
  refine am_s_bipush am_cb8 dc243_5.1.2.1 ?_
  refine am_s_ic_ge dc243_5.1.2.2 rfl (fun c1 => ?_) (fun c1 => ?_)
  · refine am_s_aload_n rfl dc243_8.1.2.2 ?_
    refine am_s_dup rfl dc243_8.2.1.1 ?_
    refine am_x_getI (x := I 163 33) dc243_8.2.1.2 rfl rfl (Or.inl rfl) rfl ?_
    refine am_s_bipush am_cb12 dc243_8.2.2.1 ?_
    refine am_s_iadd dc243_8.2.2.2 ?_
    refine am_s_putI dc243_9.1 rfl rfl rfl rfl ?_
    exact am_s_return dc243_9.2 rfl ((vi_t q c1))
  · refine am_s_aload_n rfl dc243_5.2.1.1 ?_
    refine am_s_getR (r := 178) dc243_5.2.1.2 rfl rfl rfl (hp _ _ _ rfl) ?_
    refine am_s_aload_n rfl dc243_5.2.2.1 ?_
    refine am_x_getI (x := I 163 33) dc243_5.2.2.2 rfl rfl (Or.inl rfl) rfl ?_
    refine am_s_iconst am_cc4 dc243_6.1.1.1 ?_
    refine am_s_iadd dc243_6.1.1.2 ?_
    refine am_s_iload rfl dc243_6.1.2.1 ?_
    refine am_s_iadd dc243_6.1.2.2 ?_
    refine am_s_iload_n rfl dc243_6.2.1.1 ?_
    refine am_s_if_ne dc243_6.2.1.2 rfl (fun c2 => ?_) (fun c2 => ?_)
    · refine am_s_iconst am_cc0 dc243_7.2.2.2 ?_
      refine am_s_iastore dc243_8.1.1.1 rfl ((vi_f (vi_f q c1) c2).1) rfl ?_
      refine am_s_iinc (ls' := [some (.ref 163), some (.int x1), l2, l3, some (.int (x4 + 1))]) am_cc1 rfl (am_set1_k (am_kill_x (j := 3) rfl hl3) rfl) dc243_8.1.1.2 ?_
      refine am_s_goto rfl dc243_8.1.2.1 ?_
      exact (vi_f (vi_f q c1) c2).2
    · refine am_s_iload rfl dc243_6.2.2.1 ?_
      refine am_s_aload_n rfl dc243_6.2.2.2 ?_
      refine am_x_getI (x := I 163 14) dc243_7.1.1.1 rfl rfl (Or.inl rfl) rfl ?_
      refine am_s_ic_ge dc243_7.1.1.2 rfl (fun c3 => ?_) (fun c3 => ?_)
      · refine am_s_iconst am_cc0 dc243_7.2.2.2 ?_
        refine am_s_iastore dc243_8.1.1.1 rfl ((vi_t (vi_t (vi_f q c1) (Decidable.not_not.mp c2)) c3).1) rfl ?_
        refine am_s_iinc (ls' := [some (.ref 163), some (.int x1), l2, l3, some (.int (x4 + 1))]) am_cc1 rfl (am_set1_k (am_kill_x (j := 3) rfl hl3) rfl) dc243_8.1.1.2 ?_
        refine am_s_goto rfl dc243_8.1.2.1 ?_
        exact (vi_t (vi_t (vi_f q c1) (Decidable.not_not.mp c2)) c3).2
      · refine am_s_aload_n rfl dc243_7.1.2.1 ?_
        refine am_s_getR (r := 168) dc243_7.1.2.2 rfl rfl rfl (hp _ _ _ rfl) ?_
        refine am_s_iload rfl dc243_7.2.1.1 ?_
        refine am_x_iaload (x := I 168 (Int32.toNatClampNeg x4)) dc243_7.2.1.2 rfl ((vi_f (vi_t (vi_f q c1) (Decidable.not_not.mp c2)) c3).1) rfl rfl ?_
        refine am_s_goto rfl dc243_7.2.2.1 ?_
        refine am_s_iastore dc243_8.1.1.1 rfl ((vi_f (vi_t (vi_f q c1) (Decidable.not_not.mp c2)) c3).2.1) rfl ?_
        refine am_s_iinc (ls' := [some (.ref 163), some (.int x1), l2, l3, some (.int (x4 + 1))]) am_cc1 rfl (am_set1_k (am_kill_x (j := 3) rfl hl3) rfl) dc243_8.1.1.2 ?_
        refine am_s_goto rfl dc243_8.1.2.1 ?_
        exact (vi_f (vi_t (vi_f q c1) (Decidable.not_not.mp c2)) c3).2.2
-- stepOf (I)I
theorem v244_0 {sc : Option (Nat × (Nat → Int32))} {d k n : Nat} {P : am_O → Prop} {I : am_I} {J : am_J} {Pf : am_R} (hp : am_PF Pf) {x0 : Int32} (q : (am_mth d 199 [.retAddr 17] (am_SH, I, J, Pf) (am_af sc d 244 4 [some (.int x0)] [.retAddr 17, .int x0] [.int x0] (am_SH, I, J, Pf) k n false P))) : am_go sc d 244 (0, [some (.int x0)], [], (am_SH, I, J, Pf), k, n) P := by
  refine am_s_iload_n rfl dc244_0.1.1.1 ?_
  refine am_s_ldcwT (x := 17) dc244_0.1.1.2 rfl rfl ?_
  exact am_s_static dc244_0.1.2.1 rfl rfl rfl (q)
theorem v244_7 {sc : Option (Nat × (Nat → Int32))} {d k n : Nat} {P : am_O → Prop} {I : am_I} {J : am_J} {Pf : am_R} (hp : am_PF Pf) {x0 : Int32} {s0 : Int32} {s1 : Int32} (q : (if s0 = s1 then (P (.inl (some (.int 0)), (am_SH, I, J, Pf), k, n)) else (am_mth d 199 [.retAddr 18] (am_SH, I, J, Pf) (am_af sc d 244 18 [some (.int x0)] [.retAddr 18, .int x0] [.int x0] (am_SH, I, J, Pf) k n false P)))) : am_go sc d 244 (7, [some (.int x0)], [.int s1, .int s0], (am_SH, I, J, Pf), k, n) P := by
  refine am_s_ic_ne dc244_0.1.2.2 rfl (fun c1 => ?_) (fun c1 => ?_)
  · refine am_s_iload_n rfl dc244_0.2.2.1 ?_
    refine am_s_ldcwT (x := 18) dc244_0.2.2.2 rfl rfl ?_
    exact am_s_static dc244_1.1.1.1 rfl rfl rfl ((vi_f q c1))
  · refine am_s_iconst am_cc0 dc244_0.2.1.1 ?_
    refine am_s_goto rfl dc244_0.2.1.2 ?_
    exact am_s_ireturn dc244_3.2 rfl ((vi_t q (Decidable.not_not.mp c1)))
theorem v244_21 {sc : Option (Nat × (Nat → Int32))} {d k n : Nat} {P : am_O → Prop} {I : am_I} {J : am_J} {Pf : am_R} (hp : am_PF Pf) {x0 : Int32} {s0 : Int32} {s1 : Int32} (q : (if s0 = s1 then (P (.inl (some (.int 1)), (am_SH, I, J, Pf), k, n)) else (am_mth d 199 [.retAddr 19] (am_SH, I, J, Pf) (am_af sc d 244 32 [some (.int x0)] [.retAddr 19, .int x0] [.int x0] (am_SH, I, J, Pf) k n false P)))) : am_go sc d 244 (21, [some (.int x0)], [.int s1, .int s0], (am_SH, I, J, Pf), k, n) P := by
  refine am_s_ic_ne dc244_1.1.1.2 rfl (fun c1 => ?_) (fun c1 => ?_)
  · refine am_s_iload_n rfl dc244_1.2.1.1 ?_
    refine am_s_ldcwT (x := 19) dc244_1.2.1.2 rfl rfl ?_
    exact am_s_static dc244_1.2.2.1 rfl rfl rfl ((vi_f q c1))
  · refine am_s_iconst am_cc1 dc244_1.1.2.1 ?_
    refine am_s_goto rfl dc244_1.1.2.2 ?_
    exact am_s_ireturn dc244_3.2 rfl ((vi_t q (Decidable.not_not.mp c1)))
theorem v244_35 {sc : Option (Nat × (Nat → Int32))} {d k n : Nat} {P : am_O → Prop} {I : am_I} {J : am_J} {Pf : am_R} (hp : am_PF Pf) {x0 : Int32} {s0 : Int32} {s1 : Int32} (q : (if s0 = s1 then (P (.inl (some (.int 2)), (am_SH, I, J, Pf), k, n)) else (am_mth d 199 [.retAddr 20] (am_SH, I, J, Pf) (am_af sc d 244 46 [some (.int x0)] [.retAddr 20, .int x0] [.int x0] (am_SH, I, J, Pf) k n false P)))) : am_go sc d 244 (35, [some (.int x0)], [.int s1, .int s0], (am_SH, I, J, Pf), k, n) P := by
  refine am_s_ic_ne dc244_1.2.2.2 rfl (fun c1 => ?_) (fun c1 => ?_)
  · refine am_s_iload_n rfl dc244_2.1.2.1 ?_
    refine am_s_ldcwT (x := 20) dc244_2.1.2.2 rfl rfl ?_
    exact am_s_static dc244_2.2.1.1 rfl rfl rfl ((vi_f q c1))
  · refine am_s_iconst am_cc2 dc244_2.1.1.1 ?_
    refine am_s_goto rfl dc244_2.1.1.2 ?_
    exact am_s_ireturn dc244_3.2 rfl ((vi_t q (Decidable.not_not.mp c1)))
theorem v244_49 {sc : Option (Nat × (Nat → Int32))} {d k n : Nat} {P : am_O → Prop} {I : am_I} {J : am_J} {Pf : am_R} (hp : am_PF Pf) {l0 : Option Value} {s0 : Int32} {s1 : Int32} (q : (if s0 = s1 then (P (.inl (some (.int 3)), (am_SH, I, J, Pf), k, n)) else (P (.inl (some (.int (-1))), (am_SH, I, J, Pf), k, n)))) : am_go sc d 244 (49, [l0], [.int s1, .int s0], (am_SH, I, J, Pf), k, n) P := by
  refine am_s_ic_ne dc244_2.2.1.2 rfl (fun c1 => ?_) (fun c1 => ?_)
  · refine am_s_iconst am_ccm1 dc244_3.1 ?_
    exact am_s_ireturn dc244_3.2 rfl ((vi_f q c1))
  · refine am_s_iconst am_cc3 dc244_2.2.2.1 ?_
    refine am_s_goto rfl dc244_2.2.2.2 ?_
    exact am_s_ireturn dc244_3.2 rfl ((vi_t q (Decidable.not_not.mp c1)))
-- readAgain ()V
theorem v245_0 {sc : Option (Nat × (Nat → Int32))} {d k n : Nat} {P : am_O → Prop} {I : am_I} {J : am_J} {Pf : am_R} (hp : am_PF Pf) {l1 : Option Value} {l2 : Option Value} (q : (if (I 163 5) = (-1) then (if (I 163 7) = 6 then (if (I 163 4) = (-1) then (am_mth (d + 2) 201 [.ref 163, .int 0, .int 40] (am_SH, am_u (am_u (am_u (am_u I 163 5 (I 163 4)) 163 6 3) 163 4 ((I 163 4) + 5)) 163 7 ((I 163 7) + 1), J, Pf) (am_af sc (d + 2) 245 9 [some (.ref 163), l1, l2] [.int 40, .int 0, .ref 163] [] (am_SH, am_u (am_u (am_u (am_u I 163 5 (I 163 4)) 163 6 3) 163 4 ((I 163 4) + 5)) 163 7 ((I 163 7) + 1), J, Pf) k n true P)) else (am_mth (d + 2) 201 [.ref 163, .int 0, .int 40] (am_SH, am_u (am_u (am_u I 163 5 (I 163 4)) 163 6 3) 163 7 ((I 163 7) + 1), J, Pf) (am_af sc (d + 2) 245 9 [some (.ref 163), l1, l2] [.int 40, .int 0, .ref 163] [] (am_SH, am_u (am_u (am_u I 163 5 (I 163 4)) 163 6 3) 163 7 ((I 163 7) + 1), J, Pf) k n true P))) else (am_mth (d + 2) 201 [.ref 163, .int 0, .int 40] (am_SH, am_u (am_u I 163 4 ((I 163 4) + 5)) 163 7 ((I 163 7) + 1), J, Pf) (am_af sc (d + 2) 245 9 [some (.ref 163), l1, l2] [.int 40, .int 0, .ref 163] [] (am_SH, am_u (am_u I 163 4 ((I 163 4) + 5)) 163 7 ((I 163 7) + 1), J, Pf) k n true P))) else (am_mth (d + 2) 201 [.ref 163, .int 0, .int 40] (am_SH, am_u I 163 7 ((I 163 7) + 1), J, Pf) (am_af sc (d + 2) 245 9 [some (.ref 163), l1, l2] [.int 40, .int 0, .ref 163] [] (am_SH, am_u I 163 7 ((I 163 7) + 1), J, Pf) k n true P)))) : am_go sc (d + 2) 245 (0, [some (.ref 163), l1, l2], [], (am_SH, I, J, Pf), k, n) P := by
  refine am_s_aload_n rfl dc245_0.1.1.1 ?_
  refine am_s_iconst am_cc5 dc245_0.1.1.2 ?_
  refine am_s_virtual true dc245_0.1.2.1 rfl (by decide) rfl rfl rfl (am_mth_of rfl rfl ?_)
  refine am_s_aload_n rfl dc233_0.1.1.1 ?_
  refine am_s_virtual true dc233_0.1.1.2 rfl (by decide) rfl rfl rfl (am_mth_of rfl rfl ?_)
  refine am_s_aload_n rfl dc193_0.1.1.1 ?_
  refine am_x_getI (x := I 163 5) dc193_0.1.1.2 rfl rfl (Or.inl rfl) rfl ?_
  refine am_s_iconst am_ccm1 dc193_0.1.2.1 ?_
  refine am_s_ic_ne dc193_0.1.2.2 rfl (fun c1 => ?_) (fun c1 => ?_)
  · refine am_s_iconst am_cc0 dc193_0.2.2.1 ?_
    refine am_s_zreturn dc193_0.2.2.2 rfl (by decide) (am_bkI ?_)
    refine am_s_if_eq dc233_0.1.2.1 rfl (fun _ => ?_) (fun z => absurd z (by decide))
    refine am_s_aload_n rfl dc233_1.2.1.1 ?_
    refine am_s_virtual true dc233_1.2.1.2 rfl (by decide) rfl rfl rfl (am_mth_of rfl rfl ?_)
    refine am_s_aload_n rfl dc193_0.1.1.1 ?_
    refine am_x_getI (x := I 163 5) dc193_0.1.1.2 rfl rfl (Or.inl rfl) rfl ?_
    refine am_s_iconst am_ccm1 dc193_0.1.2.1 ?_
    refine am_s_ic_ne dc193_0.1.2.2 rfl (fun _ => ?_) (fun z => absurd c1 z)
    refine am_s_iconst am_cc0 dc193_0.2.2.1 ?_
    refine am_s_zreturn dc193_0.2.2.2 rfl (by decide) (am_bkI ?_)
    refine am_s_if_eq dc233_1.2.2.1 rfl (fun _ => ?_) (fun z => absurd z (by decide))
    refine am_s_aload_n rfl dc233_2.2.1.2 ?_
    refine am_s_dup rfl dc233_2.2.2.1 ?_
    refine am_x_getI (x := I 163 7) dc233_2.2.2.2 rfl rfl (Or.inl rfl) rfl ?_
    refine am_s_iconst am_cc1 dc233_3.1.1 ?_
    refine am_s_iadd dc233_3.1.2 ?_
    refine am_s_putI dc233_3.2.1 rfl rfl rfl rfl ?_
    refine am_s_return dc233_3.2.2 rfl (am_bkV ?_)
    refine am_s_aload_n rfl dc245_0.1.2.2 ?_
    refine am_s_iconst am_cc0 dc245_0.2.1.1 ?_
    refine am_s_bipush am_cb40 dc245_0.2.1.2 ?_
    exact am_s_virtual true dc245_0.2.2.1 rfl (by decide) rfl rfl rfl ((vi_f q c1))
  · refine am_s_iconst am_cc1 dc193_0.2.1.1 ?_
    refine am_s_goto rfl dc193_0.2.1.2 ?_
    refine am_s_zreturn dc193_0.2.2.2 rfl (by decide) (am_bkI ?_)
    refine am_s_if_eq dc233_0.1.2.1 rfl (fun z => absurd z (by decide)) (fun _ => ?_)
    refine am_s_aload_n rfl dc233_0.1.2.2 ?_
    refine am_x_getI (x := I 163 7) dc233_0.2.1.1 rfl rfl (Or.inl rfl) rfl ?_
    refine am_s_bipush am_cb6 dc233_0.2.1.2 ?_
    refine am_s_ic_ne dc233_0.2.2.1 rfl (fun c2 => ?_) (fun c2 => ?_)
    · refine am_s_aload_n rfl dc233_1.2.1.1 ?_
      refine am_s_virtual true dc233_1.2.1.2 rfl (by decide) rfl rfl rfl (am_mth_of rfl rfl ?_)
      refine am_s_aload_n rfl dc193_0.1.1.1 ?_
      refine am_x_getI (x := I 163 5) dc193_0.1.1.2 rfl rfl (Or.inl rfl) rfl ?_
      refine am_s_iconst am_ccm1 dc193_0.1.2.1 ?_
      refine am_s_ic_ne dc193_0.1.2.2 rfl (fun z => absurd z c1) (fun _ => ?_)
      refine am_s_iconst am_cc1 dc193_0.2.1.1 ?_
      refine am_s_goto rfl dc193_0.2.1.2 ?_
      refine am_s_zreturn dc193_0.2.2.2 rfl (by decide) (am_bkI ?_)
      refine am_s_if_eq dc233_1.2.2.1 rfl (fun z => absurd z (by decide)) (fun _ => ?_)
      refine am_s_aload_n rfl dc233_1.2.2.2 ?_
      refine am_s_dup rfl dc233_2.1.1.1 ?_
      refine am_x_getI (x := I 163 4) dc233_2.1.1.2 rfl rfl (Or.inl rfl) rfl ?_
      refine am_s_iload_n rfl dc233_2.1.2.1 ?_
      refine am_s_iadd dc233_2.1.2.2 ?_
      refine am_s_putI dc233_2.2.1.1 rfl rfl rfl rfl ?_
      refine am_s_aload_n rfl dc233_2.2.1.2 ?_
      refine am_s_dup rfl dc233_2.2.2.1 ?_
      refine am_x_getI (x := I 163 7) dc233_2.2.2.2 rfl rfl (Or.inl rfl) rfl ?_
      refine am_s_iconst am_cc1 dc233_3.1.1 ?_
      refine am_s_iadd dc233_3.1.2 ?_
      refine am_s_putI dc233_3.2.1 rfl rfl rfl rfl ?_
      refine am_s_return dc233_3.2.2 rfl (am_bkV ?_)
      refine am_s_aload_n rfl dc245_0.1.2.2 ?_
      refine am_s_iconst am_cc0 dc245_0.2.1.1 ?_
      refine am_s_bipush am_cb40 dc245_0.2.1.2 ?_
      exact am_s_virtual true dc245_0.2.2.1 rfl (by decide) rfl rfl rfl ((vi_f (vi_t q (Decidable.not_not.mp c1)) c2))
    · refine am_s_aload_n rfl dc233_0.2.2.2 ?_
      refine am_s_iconst am_cc3 dc233_1.1.1.1 ?_
      refine am_s_aload_n rfl dc233_1.1.1.2 ?_
      refine am_x_getI (x := I 163 4) dc233_1.1.2.1 rfl rfl (Or.inl rfl) rfl ?_
      refine am_s_virtual true dc233_1.1.2.2 rfl (by decide) rfl rfl rfl (am_mth_of rfl rfl ?_)
      refine am_s_aload_n rfl dc194_0.1.1.1 ?_
      refine am_x_getI (x := I 163 5) dc194_0.1.1.2 rfl rfl (Or.inl rfl) rfl ?_
      refine am_s_iconst am_ccm1 dc194_0.1.2.1 ?_
      refine am_s_ic_eq dc194_0.1.2.2 rfl (fun _ => ?_) (fun z => absurd z c1)
      refine am_s_aload_n rfl dc194_0.2.1.2 ?_
      refine am_s_iload_n rfl dc194_0.2.2.1 ?_
      refine am_s_putI dc194_0.2.2.2 rfl rfl rfl rfl ?_
      refine am_s_aload_n rfl dc194_1.1.1 ?_
      refine am_s_iload_n rfl dc194_1.1.2 ?_
      refine am_s_putI dc194_1.2.1 rfl rfl rfl rfl ?_
      refine am_s_return dc194_1.2.2 rfl (am_bkV ?_)
      refine am_s_aload_n rfl dc233_1.2.1.1 ?_
      refine am_s_virtual true dc233_1.2.1.2 rfl (by decide) rfl rfl rfl (am_mth_of rfl rfl ?_)
      refine am_s_aload_n rfl dc193_0.1.1.1 ?_
      refine am_x_getI (x := I 163 4) dc193_0.1.1.2 rfl rfl (Or.inl rfl) rfl ?_
      refine am_s_iconst am_ccm1 dc193_0.1.2.1 ?_
      refine am_s_ic_ne dc193_0.1.2.2 rfl (fun c3 => ?_) (fun c3 => ?_)
      · refine am_s_iconst am_cc0 dc193_0.2.2.1 ?_
        refine am_s_zreturn dc193_0.2.2.2 rfl (by decide) (am_bkI ?_)
        refine am_s_if_eq dc233_1.2.2.1 rfl (fun _ => ?_) (fun z => absurd z (by decide))
        refine am_s_aload_n rfl dc233_2.2.1.2 ?_
        refine am_s_dup rfl dc233_2.2.2.1 ?_
        refine am_x_getI (x := I 163 7) dc233_2.2.2.2 rfl rfl (Or.inl rfl) rfl ?_
        refine am_s_iconst am_cc1 dc233_3.1.1 ?_
        refine am_s_iadd dc233_3.1.2 ?_
        refine am_s_putI dc233_3.2.1 rfl rfl rfl rfl ?_
        refine am_s_return dc233_3.2.2 rfl (am_bkV ?_)
        refine am_s_aload_n rfl dc245_0.1.2.2 ?_
        refine am_s_iconst am_cc0 dc245_0.2.1.1 ?_
        refine am_s_bipush am_cb40 dc245_0.2.1.2 ?_
        exact am_s_virtual true dc245_0.2.2.1 rfl (by decide) rfl rfl rfl ((vi_f (vi_t (vi_t q (Decidable.not_not.mp c1)) (Decidable.not_not.mp c2)) c3))
      · refine am_s_iconst am_cc1 dc193_0.2.1.1 ?_
        refine am_s_goto rfl dc193_0.2.1.2 ?_
        refine am_s_zreturn dc193_0.2.2.2 rfl (by decide) (am_bkI ?_)
        refine am_s_if_eq dc233_1.2.2.1 rfl (fun z => absurd z (by decide)) (fun _ => ?_)
        refine am_s_aload_n rfl dc233_1.2.2.2 ?_
        refine am_s_dup rfl dc233_2.1.1.1 ?_
        refine am_x_getI (x := I 163 4) dc233_2.1.1.2 rfl rfl (Or.inl rfl) rfl ?_
        refine am_s_iload_n rfl dc233_2.1.2.1 ?_
        refine am_s_iadd dc233_2.1.2.2 ?_
        refine am_s_putI dc233_2.2.1.1 rfl rfl rfl rfl ?_
        refine am_s_aload_n rfl dc233_2.2.1.2 ?_
        refine am_s_dup rfl dc233_2.2.2.1 ?_
        refine am_x_getI (x := I 163 7) dc233_2.2.2.2 rfl rfl (Or.inl rfl) rfl ?_
        refine am_s_iconst am_cc1 dc233_3.1.1 ?_
        refine am_s_iadd dc233_3.1.2 ?_
        refine am_s_putI dc233_3.2.1 rfl rfl rfl rfl ?_
        refine am_s_return dc233_3.2.2 rfl (am_bkV ?_)
        refine am_s_aload_n rfl dc245_0.1.2.2 ?_
        refine am_s_iconst am_cc0 dc245_0.2.1.1 ?_
        refine am_s_bipush am_cb40 dc245_0.2.1.2 ?_
        exact am_s_virtual true dc245_0.2.2.1 rfl (by decide) rfl rfl rfl ((vi_t (vi_t (vi_t q (Decidable.not_not.mp c1)) (Decidable.not_not.mp c2)) (Decidable.not_not.mp c3)))
theorem v245_31 {sc : Option (Nat × (Nat → Int32))} {d k n : Nat} {P : am_O → Prop} {I : am_I} {J : am_J} {Pf : am_R} (hp : am_PF Pf) {l1 : Option Value} {x2 : Int32} (q : (if (I 163 5) = (-1) then (am_mth (d + 1) 195 [.ref 163] (am_SH, I, J, Pf) (am_af sc (d + 1) 245 39 [some (.ref 163), l1, some (.int x2)] [.ref 163] [] (am_SH, I, J, Pf) k n true P)) else (am_go sc (d + 1) 245 (54, [some (.ref 163), l1, some (.int x2)], [], (am_SH, I, J, Pf), k, n) P))) : am_go sc (d + 1) 245 (31, [some (.ref 163), l1, some (.int x2)], [], (am_SH, I, J, Pf), k, n) P := by
  refine am_s_aload_n rfl dc245_2.1.2.2 ?_
  refine am_s_virtual true dc245_2.2.1.1 rfl (by decide) rfl rfl rfl (am_mth_of rfl rfl ?_)
  refine am_s_aload_n rfl dc193_0.1.1.1 ?_
  refine am_x_getI (x := I 163 5) dc193_0.1.1.2 rfl rfl (Or.inl rfl) rfl ?_
  refine am_s_iconst am_ccm1 dc193_0.1.2.1 ?_
  refine am_s_ic_ne dc193_0.1.2.2 rfl (fun c1 => ?_) (fun c1 => ?_)
  · refine am_s_iconst am_cc0 dc193_0.2.2.1 ?_
    refine am_s_zreturn dc193_0.2.2.2 rfl (by decide) (am_bkI ?_)
    refine am_s_if_eq dc245_2.2.1.2 rfl (fun _ => ?_) (fun z => absurd z (by decide))
    exact (vi_f q c1)
  · refine am_s_iconst am_cc1 dc193_0.2.1.1 ?_
    refine am_s_goto rfl dc193_0.2.1.2 ?_
    refine am_s_zreturn dc193_0.2.2.2 rfl (by decide) (am_bkI ?_)
    refine am_s_if_eq dc245_2.2.1.2 rfl (fun z => absurd z (by decide)) (fun _ => ?_)
    refine am_s_aload_n rfl dc245_2.2.2.1 ?_
    exact am_s_virtual true dc245_2.2.2.2 rfl (by decide) rfl rfl rfl ((vi_t q (Decidable.not_not.mp c1)))
theorem v245_54 {sc : Option (Nat × (Nat → Int32))} {d k n : Nat} {P : am_O → Prop} {I : am_I} {J : am_J} {Pf : am_R} (hp : am_PF Pf) {l1 : Option Value} {x2 : Int32} (q : (am_mth d 202 [.ref 163, .int 93] (am_SH, I, J, Pf) (am_af sc d 245 57 [some (.ref 163), l1, some (.int x2)] [.int 93, .ref 163] [] (am_SH, I, J, Pf) k n true P))) : am_go sc d 245 (54, [some (.ref 163), l1, some (.int x2)], [], (am_SH, I, J, Pf), k, n) P := by
  refine am_s_aload_n rfl dc245_3.2.1.2 ?_
  refine am_s_bipush am_cb93 dc245_3.2.2.1 ?_
  exact am_s_virtual true dc245_3.2.2.2 rfl (by decide) rfl rfl rfl (q)
theorem v245_12 {sc : Option (Nat × (Nat → Int32))} {d k n : Nat} {P : am_O → Prop} {I : am_I} {J : am_J} {Pf : am_R} (hp : am_PF Pf) {l1 : Option Value} {l2 : Option Value} {s0 : Int32} (q : (am_mth d 202 [.ref 163, .int 91] (am_SH, I, J, Pf) (am_af sc d 245 16 [some (.ref 163), some (.int s0), l2] [.int 91, .ref 163] [] (am_SH, I, J, Pf) k n true P))) : am_go sc d 245 (12, [some (.ref 163), l1, l2], [.int s0], (am_SH, I, J, Pf), k, n) P := by
  refine am_s_istore_n (ls' := [some (.ref 163), some (.int s0), l2]) rfl rfl dc245_0.2.2.2 ?_
  refine am_s_aload_n rfl dc245_1.1.1.1 ?_
  refine am_s_bipush am_cb91 dc245_1.1.1.2 ?_
  exact am_s_virtual true dc245_1.1.2.1 rfl (by decide) rfl rfl rfl (q)
theorem v245_42 {sc : Option (Nat × (Nat → Int32))} {d k n : Nat} {P : am_O → Prop} {I : am_I} {J : am_J} {Pf : am_R} (hp : am_PF Pf) {l1 : Option Value} {x2 : Int32} {s0 : Int32} (q : (if s0 = 93 then (am_go sc d 245 (54, [some (.ref 163), l1, some (.int x2)], [], (am_SH, I, J, Pf), k, n) P) else (am_mth d 246 [.ref 163] (am_SH, I, J, Pf) (am_af sc d 245 48 [some (.ref 163), l1, some (.int x2)] [.ref 163] [] (am_SH, I, J, Pf) k n true P)))) : am_go sc d 245 (42, [some (.ref 163), l1, some (.int x2)], [.int s0], (am_SH, I, J, Pf), k, n) P := by
  refine am_s_bipush am_cb93 dc245_3.1.1.1 ?_
  refine am_s_ic_eq dc245_3.1.1.2 rfl (fun c1 => ?_) (fun c1 => ?_)
  · exact (vi_t q c1)
  · refine am_s_aload_n rfl dc245_3.1.2.1 ?_
    exact am_s_virtual true dc245_3.1.2.2 rfl (by decide) rfl rfl rfl ((vi_f q c1))
theorem v245_60 {sc : Option (Nat × (Nat → Int32))} {d k n : Nat} {P : am_O → Prop} {I : am_I} {J : am_J} {Pf : am_R} (hp : am_PF Pf) {l1 : Option Value} {x2 : Int32} (q : (if (I 163 5) = (-1) then (am_in (x2 + 2) 600 = true) ∧ (P (.inl none, (am_SH, am_u (am_u I 163 7 ((I 163 7) - 1)) 178 (Int32.toNatClampNeg (x2 + 2)) (I 163 33), J, Pf), k, n)) else (P (.inl none, (am_SH, am_u I 163 7 ((I 163 7) - 1), J, Pf), k, n)))) : am_go sc (d + 1) 245 (60, [some (.ref 163), l1, some (.int x2)], [], (am_SH, I, J, Pf), k, n) P := by
  refine am_s_aload_n rfl dc245_4.1.1.1 ?_
  refine am_s_dup rfl dc245_4.1.1.2 ?_
  refine am_x_getI (x := I 163 7) dc245_4.1.2.1 rfl rfl (Or.inl rfl) rfl ?_
  refine am_s_iconst am_cc1 dc245_4.1.2.2 ?_
  refine am_s_isub dc245_4.2.1.1 ?_
  refine am_s_putI dc245_4.2.1.2 rfl rfl rfl rfl ?_
  refine am_s_aload_n rfl dc245_4.2.2.1 ?_
  refine am_s_virtual true dc245_4.2.2.2 rfl (by decide) rfl rfl rfl (am_mth_of rfl rfl ?_)
  refine am_s_aload_n rfl dc193_0.1.1.1 ?_
  refine am_x_getI (x := I 163 5) dc193_0.1.1.2 rfl rfl (Or.inl rfl) rfl ?_
  refine am_s_iconst am_ccm1 dc193_0.1.2.1 ?_
  refine am_s_ic_ne dc193_0.1.2.2 rfl (fun c1 => ?_) (fun c1 => ?_)
  · refine am_s_iconst am_cc0 dc193_0.2.2.1 ?_
    refine am_s_zreturn dc193_0.2.2.2 rfl (by decide) (am_bkI ?_)
    refine am_s_if_eq dc245_5.1.1.1 rfl (fun _ => ?_) (fun z => absurd z (by decide))
    exact am_s_return dc245_6.2 rfl ((vi_f q c1))
  · refine am_s_iconst am_cc1 dc193_0.2.1.1 ?_
    refine am_s_goto rfl dc193_0.2.1.2 ?_
    refine am_s_zreturn dc193_0.2.2.2 rfl (by decide) (am_bkI ?_)
    refine am_s_if_eq dc245_5.1.1.1 rfl (fun z => absurd z (by decide)) (fun _ => ?_)
    refine am_s_aload_n rfl dc245_5.1.1.2 ?_
    refine am_s_getR (r := 178) dc245_5.1.2.1 rfl rfl rfl (hp _ _ _ rfl) ?_
    refine am_s_iload_n rfl dc245_5.1.2.2 ?_
    refine am_s_iconst am_cc2 dc245_5.2.1.1 ?_
    refine am_s_iadd dc245_5.2.1.2 ?_
    refine am_s_aload_n rfl dc245_5.2.2.1 ?_
    refine am_x_getI (x := I 163 33) dc245_5.2.2.2 rfl rfl (Or.inl rfl) rfl ?_
    refine am_s_iastore dc245_6.1 rfl ((vi_t q (Decidable.not_not.mp c1)).1) rfl ?_
    exact am_s_return dc245_6.2 rfl ((vi_t q (Decidable.not_not.mp c1)).2)
theorem v245_19 {sc : Option (Nat × (Nat → Int32))} {d k n : Nat} {P : am_O → Prop} {I : am_I} {J : am_J} {Pf : am_R} (hp : am_PF Pf) {x1 : Int32} {l2 : Option Value} (q : (am_mth d 243 [.ref 163, .int 3, .int x1, .int 0] (am_SH, I, J, Pf) (am_af sc d 245 28 [some (.ref 163), some (.int x1), some (.int (I 163 33))] [.int 0, .int x1, .int 3, .ref 163] [] (am_SH, I, J, Pf) k n true P))) : am_go sc d 245 (19, [some (.ref 163), some (.int x1), l2], [], (am_SH, I, J, Pf), k, n) P := by
  refine am_s_aload_n rfl dc245_1.1.2.2 ?_
  refine am_x_getI (x := I 163 33) dc245_1.2.1.1 rfl rfl (Or.inl rfl) rfl ?_
  refine am_s_istore_n (ls' := [some (.ref 163), some (.int x1), some (.int (I 163 33))]) rfl rfl dc245_1.2.1.2 ?_
  refine am_s_aload_n rfl dc245_1.2.2.1 ?_
  refine am_s_iconst am_cc3 dc245_1.2.2.2 ?_
  refine am_s_iload_n rfl dc245_2.1.1.1 ?_
  refine am_s_iconst am_cc0 dc245_2.1.1.2 ?_
  exact am_s_virtual true dc245_2.1.2.1 rfl (by decide) rfl rfl rfl (q)
theorem v245_51 {sc : Option (Nat × (Nat → Int32))} {d k n : Nat} {P : am_O → Prop} {I : am_I} {J : am_J} {Pf : am_R} (hp : am_PF Pf) {l1 : Option Value} {x2 : Int32} (q : (am_go sc d 245 (31, [some (.ref 163), l1, some (.int x2)], [], (am_SH, I, J, Pf), k, n) P)) : am_go sc d 245 (51, [some (.ref 163), l1, some (.int x2)], [], (am_SH, I, J, Pf), k, n) P := by
  refine am_s_goto rfl dc245_3.2.1.1 ?_
  exact q
-- readStep ()V
theorem v246_0 {sc : Option (Nat × (Nat → Int32))} {d k n : Nat} {P : am_O → Prop} {I : am_I} {J : am_J} {Pf : am_R} (hp : am_PF Pf) {l1 : Option Value} {l2 : Option Value} {l3 : Option Value} (q : (am_mth d 198 [.ref 163] (am_SH, I, J, Pf) (am_af sc d 246 1 [some (.ref 163), l1, l2, l3] [.ref 163] [] (am_SH, I, J, Pf) k n true P))) : am_go sc d 246 (0, [some (.ref 163), l1, l2, l3], [], (am_SH, I, J, Pf), k, n) P := by
  refine am_s_aload_n rfl dc246_0.1.1.1 ?_
  exact am_s_virtual true dc246_0.1.1.2 rfl (by decide) rfl rfl rfl (q)
theorem v246_80 {sc : Option (Nat × (Nat → Int32))} {d k n : Nat} {P : am_O → Prop} {I : am_I} {J : am_J} {Pf : am_R} (hp : am_PF Pf) {x1 : Int32} {x2 : Int32} {x3 : Int32} (q : (am_mth d 243 [.ref 163, .int x1, .int x2, .int x3] (am_SH, I, J, Pf) (am_af sc d 246 84 [some (.ref 163), some (.int x1), some (.int x2), some (.int x3)] [.int x3, .int x2, .int x1, .ref 163] [] (am_SH, I, J, Pf) k n true P))) : am_go sc d 246 (80, [some (.ref 163), some (.int x1), some (.int x2), some (.int x3)], [], (am_SH, I, J, Pf), k, n) P := by
  refine am_s_aload_n rfl dc246_5.1.2.1 ?_
  refine am_s_iload_n rfl dc246_5.1.2.2 ?_
  refine am_s_iload_n rfl dc246_5.2.1.1 ?_
  refine am_s_iload_n rfl dc246_5.2.1.2 ?_
  exact am_s_virtual true dc246_5.2.2.1 rfl (by decide) rfl rfl rfl (q)
theorem v246_4 {sc : Option (Nat × (Nat → Int32))} {d k n : Nat} {P : am_O → Prop} {I : am_I} {J : am_J} {Pf : am_R} (hp : am_PF Pf) {l1 : Option Value} {l2 : Option Value} {l3 : Option Value} {s0 : Int32} (q : (am_mth d 244 [.int s0] (am_SH, I, J, Pf) (am_af sc d 246 4 [some (.ref 163), l1, l2, l3] [.int s0] [] (am_SH, I, J, Pf) k n false P))) : am_go sc d 246 (4, [some (.ref 163), l1, l2, l3], [.int s0], (am_SH, I, J, Pf), k, n) P := by
  exact am_s_static dc246_0.1.2.1 rfl rfl rfl (q)
theorem v246_87 {sc : Option (Nat × (Nat → Int32))} {d k n : Nat} {P : am_O → Prop} {I : am_I} {J : am_J} {Pf : am_R} (hp : am_PF Pf) {l1 : Option Value} {l2 : Option Value} {l3 : Option Value} (q : (am_mth d 202 [.ref 163, .int 59] (am_SH, I, J, Pf) (am_af sc d 246 90 [some (.ref 163), l1, l2, l3] [.int 59, .ref 163] [] (am_SH, I, J, Pf) k n true P))) : am_go sc d 246 (87, [some (.ref 163), l1, l2, l3], [], (am_SH, I, J, Pf), k, n) P := by
  refine am_s_aload_n rfl dc246_5.2.2.2 ?_
  refine am_s_bipush am_cb59 dc246_6.1 ?_
  exact am_s_virtual true dc246_6.2.1 rfl (by decide) rfl rfl rfl (q)
theorem v246_7 {sc : Option (Nat × (Nat → Int32))} {d k n : Nat} {P : am_O → Prop} {I : am_I} {J : am_J} {Pf : am_R} (hp : am_PF Pf) {l1 : Option Value} {l2 : Option Value} {l3 : Option Value} {s0 : Int32} (q : (if s0 = (-1) then (if (I 163 5) = (-1) then (am_mth (d + 1) 202 [.ref 163, .int 59] (am_SH, am_u (am_u I 163 5 (I 163 4)) 163 6 1, J, Pf) (am_af sc (d + 1) 246 90 [some (.ref 163), some (.int s0), l2, l3] [.int 59, .ref 163] [] (am_SH, am_u (am_u I 163 5 (I 163 4)) 163 6 1, J, Pf) k n true P)) else (am_mth (d + 1) 202 [.ref 163, .int 59] (am_SH, I, J, Pf) (am_af sc (d + 1) 246 90 [some (.ref 163), some (.int s0), l2, l3] [.int 59, .ref 163] [] (am_SH, I, J, Pf) k n true P))) else (if s0 = 3 then (am_mth (d + 1) 245 [.ref 163] (am_SH, I, J, Pf) (am_af sc (d + 1) 246 31 [some (.ref 163), some (.int s0), l2, l3] [.ref 163] [] (am_SH, I, J, Pf) k n true P)) else (am_mth (d + 1) 200 [.ref 163] (am_SH, I, J, Pf) (am_af sc (d + 1) 246 38 [some (.ref 163), some (.int s0), l2, l3] [.ref 163] [] (am_SH, I, J, Pf) k n true P))))) : am_go sc (d + 1) 246 (7, [some (.ref 163), l1, l2, l3], [.int s0], (am_SH, I, J, Pf), k, n) P := by
  refine am_s_istore_n (ls' := [some (.ref 163), some (.int s0), l2, l3]) rfl rfl dc246_0.1.2.2 ?_
  refine am_s_iload_n rfl dc246_0.2.1.1 ?_
  refine am_s_iconst am_ccm1 dc246_0.2.1.2 ?_
  refine am_s_ic_ne dc246_0.2.2.1 rfl (fun c1 => ?_) (fun c1 => ?_)
  · refine am_s_iload_n rfl dc246_1.2.1.2 ?_
    refine am_s_iconst am_cc3 dc246_1.2.2.1 ?_
    refine am_s_ic_ne dc246_1.2.2.2 rfl (fun c2 => ?_) (fun c2 => ?_)
    · refine am_s_aload_n rfl dc246_2.1.2.2 ?_
      exact am_s_virtual true dc246_2.2.1.1 rfl (by decide) rfl rfl rfl ((vi_f (vi_f q c1) c2))
    · refine am_s_aload_n rfl dc246_2.1.1.1 ?_
      exact am_s_virtual true dc246_2.1.1.2 rfl (by decide) rfl rfl rfl ((vi_t (vi_f q c1) (Decidable.not_not.mp c2)))
  · refine am_s_aload_n rfl dc246_0.2.2.2 ?_
    refine am_s_iconst am_cc1 dc246_1.1.1.1 ?_
    refine am_s_aload_n rfl dc246_1.1.1.2 ?_
    refine am_x_getI (x := I 163 4) dc246_1.1.2.1 rfl rfl (Or.inl rfl) rfl ?_
    refine am_s_virtual true dc246_1.1.2.2 rfl (by decide) rfl rfl rfl (am_mth_of rfl rfl ?_)
    refine am_s_aload_n rfl dc194_0.1.1.1 ?_
    refine am_x_getI (x := I 163 5) dc194_0.1.1.2 rfl rfl (Or.inl rfl) rfl ?_
    refine am_s_iconst am_ccm1 dc194_0.1.2.1 ?_
    refine am_s_ic_eq dc194_0.1.2.2 rfl (fun c2 => ?_) (fun c2 => ?_)
    · refine am_s_aload_n rfl dc194_0.2.1.2 ?_
      refine am_s_iload_n rfl dc194_0.2.2.1 ?_
      refine am_s_putI dc194_0.2.2.2 rfl rfl rfl rfl ?_
      refine am_s_aload_n rfl dc194_1.1.1 ?_
      refine am_s_iload_n rfl dc194_1.1.2 ?_
      refine am_s_putI dc194_1.2.1 rfl rfl rfl rfl ?_
      refine am_s_return dc194_1.2.2 rfl (am_bkV ?_)
      refine am_s_goto rfl dc246_1.2.1.1 ?_
      refine am_s_aload_n rfl dc246_5.2.2.2 ?_
      refine am_s_bipush am_cb59 dc246_6.1 ?_
      exact am_s_virtual true dc246_6.2.1 rfl (by decide) rfl rfl rfl ((vi_t (vi_t q (Decidable.not_not.mp c1)) c2))
    · refine am_s_return dc194_0.2.1.1 rfl (am_bkV ?_)
      refine am_s_goto rfl dc246_1.2.1.1 ?_
      refine am_s_aload_n rfl dc246_5.2.2.2 ?_
      refine am_s_bipush am_cb59 dc246_6.1 ?_
      exact am_s_virtual true dc246_6.2.1 rfl (by decide) rfl rfl rfl ((vi_f (vi_t q (Decidable.not_not.mp c1)) c2))
theorem v246_93 {sc : Option (Nat × (Nat → Int32))} {d k n : Nat} {P : am_O → Prop} {I : am_I} {J : am_J} {Pf : am_R} (hp : am_PF Pf) {l0 : Option Value} {l1 : Option Value} {l2 : Option Value} {l3 : Option Value} (q : (P (.inl none, (am_SH, I, J, Pf), k, n))) : am_go sc d 246 (93, [l0, l1, l2, l3], [], (am_SH, I, J, Pf), k, n) P := by
  exact am_s_return dc246_6.2.2 rfl (q)
theorem v246_34 {sc : Option (Nat × (Nat → Int32))} {d k n : Nat} {P : am_O → Prop} {I : am_I} {J : am_J} {Pf : am_R} (hp : am_PF Pf) {l1 : Option Value} {l2 : Option Value} {l3 : Option Value} (q : (am_mth d 202 [.ref 163, .int 59] (am_SH, I, J, Pf) (am_af sc d 246 90 [some (.ref 163), l1, l2, l3] [.int 59, .ref 163] [] (am_SH, I, J, Pf) k n true P))) : am_go sc d 246 (34, [some (.ref 163), l1, l2, l3], [], (am_SH, I, J, Pf), k, n) P := by
  refine am_s_goto rfl dc246_2.1.2.1 ?_
  refine am_s_aload_n rfl dc246_5.2.2.2 ?_
  refine am_s_bipush am_cb59 dc246_6.1 ?_
  exact am_s_virtual true dc246_6.2.1 rfl (by decide) rfl rfl rfl (q)
theorem v246_41 {sc : Option (Nat × (Nat → Int32))} {d k n : Nat} {P : am_O → Prop} {I : am_I} {J : am_J} {Pf : am_R} (hp : am_PF Pf) {x1 : Int32} {l2 : Option Value} {l3 : Option Value} (q : (am_mth d 201 [.ref 163, .int 0, .int 24] (am_SH, I, J, Pf) (am_af sc d 246 45 [some (.ref 163), some (.int x1), l2, l3] [.int 24, .int 0, .ref 163] [] (am_SH, I, J, Pf) k n true P))) : am_go sc d 246 (41, [some (.ref 163), some (.int x1), l2, l3], [], (am_SH, I, J, Pf), k, n) P := by
  refine am_s_aload_n rfl dc246_2.2.1.2 ?_
  refine am_s_iconst am_cc0 dc246_2.2.2.1 ?_
  refine am_s_bipush am_cb24 dc246_2.2.2.2 ?_
  exact am_s_virtual true dc246_3.1.1.1 rfl (by decide) rfl rfl rfl (q)
theorem v246_48 {sc : Option (Nat × (Nat → Int32))} {d k n : Nat} {P : am_O → Prop} {I : am_I} {J : am_J} {Pf : am_R} (hp : am_PF Pf) {x1 : Int32} {l2 : Option Value} {l3 : Option Value} {s0 : Int32} (q : (if x1 = 0 then (if (I 163 5) = (-1) then (am_mth (d + 1) 214 [.ref 163] (am_SH, I, J, Pf) (am_af sc (d + 1) 246 77 [some (.ref 163), some (.int x1), some (.int s0), some (.int 0)] [.ref 163] [] (am_SH, I, J, Pf) k n true P)) else (am_go sc (d + 1) 246 (80, [some (.ref 163), some (.int x1), some (.int s0), some (.int 0)], [], (am_SH, I, J, Pf), k, n) P)) else (am_mth (d + 1) 201 [.ref 163, .int 0, .int 24] (am_SH, I, J, Pf) (am_af sc (d + 1) 246 61 [some (.ref 163), some (.int x1), some (.int s0), l3] [.int 24, .int 0, .ref 163] [] (am_SH, I, J, Pf) k n true P)))) : am_go sc (d + 1) 246 (48, [some (.ref 163), some (.int x1), l2, l3], [.int s0], (am_SH, I, J, Pf), k, n) P := by
  refine am_s_istore_n (ls' := [some (.ref 163), some (.int x1), some (.int s0), l3]) rfl rfl dc246_3.1.1.2 ?_
  refine am_s_iload_n rfl dc246_3.1.2.1 ?_
  refine am_s_if_ne dc246_3.1.2.2 rfl (fun c1 => ?_) (fun c1 => ?_)
  · refine am_s_aload_n rfl dc246_3.2.2.1 ?_
    refine am_s_iconst am_cc0 dc246_3.2.2.2 ?_
    refine am_s_bipush am_cb24 dc246_4.1.1.1 ?_
    exact am_s_virtual true dc246_4.1.1.2 rfl (by decide) rfl rfl rfl ((vi_f q c1))
  · refine am_s_iconst am_cc0 dc246_3.2.1.1 ?_
    refine am_s_goto rfl dc246_3.2.1.2 ?_
    refine am_s_istore_n (ls' := [some (.ref 163), some (.int x1), some (.int s0), some (.int 0)]) rfl rfl dc246_4.1.2.1 ?_
    refine am_s_iload_n rfl dc246_4.1.2.2 ?_
    refine am_s_if_ne dc246_4.2.1.1 rfl (fun z => absurd z c1) (fun _ => ?_)
    refine am_s_aload_n rfl dc246_4.2.1.2 ?_
    refine am_s_virtual true dc246_4.2.2.1 rfl (by decide) rfl rfl rfl (am_mth_of rfl rfl ?_)
    refine am_s_aload_n rfl dc193_0.1.1.1 ?_
    refine am_x_getI (x := I 163 5) dc193_0.1.1.2 rfl rfl (Or.inl rfl) rfl ?_
    refine am_s_iconst am_ccm1 dc193_0.1.2.1 ?_
    refine am_s_ic_ne dc193_0.1.2.2 rfl (fun c2 => ?_) (fun c2 => ?_)
    · refine am_s_iconst am_cc0 dc193_0.2.2.1 ?_
      refine am_s_zreturn dc193_0.2.2.2 rfl (by decide) (am_bkI ?_)
      refine am_s_if_eq dc246_4.2.2.2 rfl (fun _ => ?_) (fun z => absurd z (by decide))
      exact (vi_f (vi_t q (Decidable.not_not.mp c1)) c2)
    · refine am_s_iconst am_cc1 dc193_0.2.1.1 ?_
      refine am_s_goto rfl dc193_0.2.1.2 ?_
      refine am_s_zreturn dc193_0.2.2.2 rfl (by decide) (am_bkI ?_)
      refine am_s_if_eq dc246_4.2.2.2 rfl (fun z => absurd z (by decide)) (fun _ => ?_)
      refine am_s_aload_n rfl dc246_5.1.1.1 ?_
      exact am_s_virtual true dc246_5.1.1.2 rfl (by decide) rfl rfl rfl ((vi_t (vi_t q (Decidable.not_not.mp c1)) (Decidable.not_not.mp c2)))
theorem v246_64 {sc : Option (Nat × (Nat → Int32))} {d k n : Nat} {P : am_O → Prop} {I : am_I} {J : am_J} {Pf : am_R} (hp : am_PF Pf) {x1 : Int32} {x2 : Int32} {l3 : Option Value} {s0 : Int32} (q : (if x1 = 0 then (if (I 163 5) = (-1) then (am_mth (d + 1) 214 [.ref 163] (am_SH, I, J, Pf) (am_af sc (d + 1) 246 77 [some (.ref 163), some (.int x1), some (.int x2), some (.int s0)] [.ref 163] [] (am_SH, I, J, Pf) k n true P)) else (am_go sc (d + 1) 246 (80, [some (.ref 163), some (.int x1), some (.int x2), some (.int s0)], [], (am_SH, I, J, Pf), k, n) P)) else (am_go sc (d + 1) 246 (80, [some (.ref 163), some (.int x1), some (.int x2), some (.int s0)], [], (am_SH, I, J, Pf), k, n) P))) : am_go sc (d + 1) 246 (64, [some (.ref 163), some (.int x1), some (.int x2), l3], [.int s0], (am_SH, I, J, Pf), k, n) P := by
  refine am_s_istore_n (ls' := [some (.ref 163), some (.int x1), some (.int x2), some (.int s0)]) rfl rfl dc246_4.1.2.1 ?_
  refine am_s_iload_n rfl dc246_4.1.2.2 ?_
  refine am_s_if_ne dc246_4.2.1.1 rfl (fun c1 => ?_) (fun c1 => ?_)
  · exact (vi_f q c1)
  · refine am_s_aload_n rfl dc246_4.2.1.2 ?_
    refine am_s_virtual true dc246_4.2.2.1 rfl (by decide) rfl rfl rfl (am_mth_of rfl rfl ?_)
    refine am_s_aload_n rfl dc193_0.1.1.1 ?_
    refine am_x_getI (x := I 163 5) dc193_0.1.1.2 rfl rfl (Or.inl rfl) rfl ?_
    refine am_s_iconst am_ccm1 dc193_0.1.2.1 ?_
    refine am_s_ic_ne dc193_0.1.2.2 rfl (fun c2 => ?_) (fun c2 => ?_)
    · refine am_s_iconst am_cc0 dc193_0.2.2.1 ?_
      refine am_s_zreturn dc193_0.2.2.2 rfl (by decide) (am_bkI ?_)
      refine am_s_if_eq dc246_4.2.2.2 rfl (fun _ => ?_) (fun z => absurd z (by decide))
      exact (vi_f (vi_t q (Decidable.not_not.mp c1)) c2)
    · refine am_s_iconst am_cc1 dc193_0.2.1.1 ?_
      refine am_s_goto rfl dc193_0.2.1.2 ?_
      refine am_s_zreturn dc193_0.2.2.2 rfl (by decide) (am_bkI ?_)
      refine am_s_if_eq dc246_4.2.2.2 rfl (fun z => absurd z (by decide)) (fun _ => ?_)
      refine am_s_aload_n rfl dc246_5.1.1.1 ?_
      exact am_s_virtual true dc246_5.1.1.2 rfl (by decide) rfl rfl rfl ((vi_t (vi_t q (Decidable.not_not.mp c1)) (Decidable.not_not.mp c2)))
-- work (I)I
theorem v247_0 {sc : Option (Nat × (Nat → Int32))} {d k n : Nat} {P : am_O → Prop} {I : am_I} {J : am_J} {Pf : am_R} (hp : am_PF Pf) {x1 : Int32} {l2 : Option Value} {l3 : Option Value} {l4 : Option Value} (q : (if x1 < 0 then (P (.inl (some (.int 0)), (am_SH, am_u (am_u (am_u I 163 0 0) 163 0 1) 164 1 ((I 164 1) + 1), J, Pf), k, n)) else (if (I 163 2) < x1 then (P (.inl (some (.int 0)), (am_SH, am_u (am_u (am_u I 163 0 0) 163 0 1) 164 1 ((I 164 1) + 1), J, Pf), k, n)) else (if 150 < x1 then (P (.inl (some (.int 0)), (am_SH, am_u (am_u (am_u I 163 0 0) 163 0 1) 164 1 ((I 164 1) + 1), J, Pf), k, n)) else (if (I 163 34) = 16 then (P (.inl (some (.int (-20))), (am_SH, am_u (am_u (am_u (am_u (am_u (am_u (am_u (am_u (am_u I 163 0 0) 163 2 0) 163 8 (-1)) 163 3 x1) 163 4 0) 163 5 (-1)) 163 7 0) 163 10 (-1)) 163 8 (-1), J, Pf), k, n)) else (am_go sc (d + 2) 247 (70, [some (.ref 163), some (.int x1), some (.int 0), l3, l4], [], (am_SH, am_u (am_u (am_u (am_u (am_u (am_u (am_u (am_u (am_u I 163 0 0) 163 2 0) 163 8 (-1)) 163 3 x1) 163 4 0) 163 5 (-1)) 163 7 0) 163 10 (-1)) 163 33 0, J, Pf), k, n) P)))))) : am_go sc (d + 2) 247 (0, [some (.ref 163), some (.int x1), l2, l3, l4], [], (am_SH, I, J, Pf), k, n) P := by
  refine am_s_aload_n rfl dc247_0.1.1.1 ?_
  refine am_s_iconst am_cc0 dc247_0.1.1.2 ?_
  refine am_s_putI dc247_0.1.2.1 rfl rfl rfl rfl ?_
  refine am_s_aload_n rfl dc247_0.1.2.2 ?_
  refine am_s_iload_n rfl dc247_0.2.1.1 ?_
  refine am_s_if_lt dc247_0.2.1.2 rfl (fun c1 => ?_) (fun c1 => ?_)
  · refine am_s_iconst am_cc0 dc247_1.2.2.2 ?_
    refine am_s_iconst am_cc1 dc247_2.1.1.1 ?_
    refine am_s_iconst am_cc1 dc247_2.1.1.2 ?_
    refine am_s_virtual true dc247_2.1.2.1 rfl (by decide) rfl rfl rfl (am_mth_of rfl rfl ?_)
    refine am_s_iload_n rfl dc189_0.1.1.1 ?_
    refine am_s_if_ne dc189_0.1.1.2 rfl (fun z => absurd z (by decide)) (fun _ => ?_)
    refine am_s_aload_n rfl dc189_0.1.2.1 ?_
    refine am_x_getI (x := 0) dc189_0.1.2.2 rfl rfl (Or.inl rfl) rfl ?_
    refine am_s_if_ne dc189_0.2.1.1 rfl (fun z => absurd z (by decide)) (fun _ => ?_)
    refine am_s_aload_n rfl dc189_0.2.1.2 ?_
    refine am_s_iload_n rfl dc189_0.2.2.1 ?_
    refine am_s_putI dc189_0.2.2.2 rfl rfl rfl rfl ?_
    refine am_s_aload_n rfl dc189_1.1.1.1 ?_
    refine am_s_getR (r := 164) dc189_1.1.1.2 rfl rfl rfl (hp _ _ _ rfl) ?_
    refine am_s_iload_n rfl dc189_1.1.2.1 ?_
    refine am_s_dup2 rfl rfl dc189_1.1.2.2 ?_
    refine am_x_iaload (x := I 164 1) dc189_1.2.1.1 rfl (by decide +kernel) am_cN1 rfl ?_
    refine am_s_iconst am_cc1 dc189_1.2.1.2 ?_
    refine am_s_iadd dc189_1.2.2.1 ?_
    refine am_s_iastore dc189_1.2.2.2 rfl (by decide +kernel) am_cN1 ?_
    refine am_s_aload_n rfl dc189_2.1.1 ?_
    refine am_x_getI (x := 1) dc189_2.1.2.1 rfl rfl (Or.inl rfl) rfl ?_
    refine am_s_if_ne dc189_2.1.2.2 rfl (fun _ => ?_) (fun z => absurd z (by decide))
    refine am_s_iconst am_cc0 dc189_2.2.2.1 ?_
    refine am_s_zreturn dc189_2.2.2.2 rfl (by decide) (am_bkI ?_)
    refine am_s_if_ne dc247_2.1.2.2 rfl (fun z => absurd z (by decide)) (fun _ => ?_)
    refine am_s_iconst am_cc0 dc247_2.2.1.1 ?_
    exact am_s_ireturn dc247_2.2.1.2 rfl ((vi_t q c1))
  · refine am_s_iload_n rfl dc247_0.2.2.1 ?_
    refine am_s_aload_n rfl dc247_0.2.2.2 ?_
    refine am_x_getI (x := I 163 2) dc247_1.1.1.1 rfl rfl (Or.inl rfl) rfl ?_
    refine am_s_ic_gt dc247_1.1.1.2 rfl (fun c2 => ?_) (fun c2 => ?_)
    · refine am_s_iconst am_cc0 dc247_1.2.2.2 ?_
      refine am_s_iconst am_cc1 dc247_2.1.1.1 ?_
      refine am_s_iconst am_cc1 dc247_2.1.1.2 ?_
      refine am_s_virtual true dc247_2.1.2.1 rfl (by decide) rfl rfl rfl (am_mth_of rfl rfl ?_)
      refine am_s_iload_n rfl dc189_0.1.1.1 ?_
      refine am_s_if_ne dc189_0.1.1.2 rfl (fun z => absurd z (by decide)) (fun _ => ?_)
      refine am_s_aload_n rfl dc189_0.1.2.1 ?_
      refine am_x_getI (x := 0) dc189_0.1.2.2 rfl rfl (Or.inl rfl) rfl ?_
      refine am_s_if_ne dc189_0.2.1.1 rfl (fun z => absurd z (by decide)) (fun _ => ?_)
      refine am_s_aload_n rfl dc189_0.2.1.2 ?_
      refine am_s_iload_n rfl dc189_0.2.2.1 ?_
      refine am_s_putI dc189_0.2.2.2 rfl rfl rfl rfl ?_
      refine am_s_aload_n rfl dc189_1.1.1.1 ?_
      refine am_s_getR (r := 164) dc189_1.1.1.2 rfl rfl rfl (hp _ _ _ rfl) ?_
      refine am_s_iload_n rfl dc189_1.1.2.1 ?_
      refine am_s_dup2 rfl rfl dc189_1.1.2.2 ?_
      refine am_x_iaload (x := I 164 1) dc189_1.2.1.1 rfl (by decide +kernel) am_cN1 rfl ?_
      refine am_s_iconst am_cc1 dc189_1.2.1.2 ?_
      refine am_s_iadd dc189_1.2.2.1 ?_
      refine am_s_iastore dc189_1.2.2.2 rfl (by decide +kernel) am_cN1 ?_
      refine am_s_aload_n rfl dc189_2.1.1 ?_
      refine am_x_getI (x := 1) dc189_2.1.2.1 rfl rfl (Or.inl rfl) rfl ?_
      refine am_s_if_ne dc189_2.1.2.2 rfl (fun _ => ?_) (fun z => absurd z (by decide))
      refine am_s_iconst am_cc0 dc189_2.2.2.1 ?_
      refine am_s_zreturn dc189_2.2.2.2 rfl (by decide) (am_bkI ?_)
      refine am_s_if_ne dc247_2.1.2.2 rfl (fun z => absurd z (by decide)) (fun _ => ?_)
      refine am_s_iconst am_cc0 dc247_2.2.1.1 ?_
      exact am_s_ireturn dc247_2.2.1.2 rfl ((vi_t (vi_f q c1) c2))
    · refine am_s_iload_n rfl dc247_1.1.2.1 ?_
      refine am_s_sipush am_cs150 dc247_1.1.2.2 ?_
      refine am_s_ic_gt dc247_1.2.1.1 rfl (fun c3 => ?_) (fun c3 => ?_)
      · refine am_s_iconst am_cc0 dc247_1.2.2.2 ?_
        refine am_s_iconst am_cc1 dc247_2.1.1.1 ?_
        refine am_s_iconst am_cc1 dc247_2.1.1.2 ?_
        refine am_s_virtual true dc247_2.1.2.1 rfl (by decide) rfl rfl rfl (am_mth_of rfl rfl ?_)
        refine am_s_iload_n rfl dc189_0.1.1.1 ?_
        refine am_s_if_ne dc189_0.1.1.2 rfl (fun z => absurd z (by decide)) (fun _ => ?_)
        refine am_s_aload_n rfl dc189_0.1.2.1 ?_
        refine am_x_getI (x := 0) dc189_0.1.2.2 rfl rfl (Or.inl rfl) rfl ?_
        refine am_s_if_ne dc189_0.2.1.1 rfl (fun z => absurd z (by decide)) (fun _ => ?_)
        refine am_s_aload_n rfl dc189_0.2.1.2 ?_
        refine am_s_iload_n rfl dc189_0.2.2.1 ?_
        refine am_s_putI dc189_0.2.2.2 rfl rfl rfl rfl ?_
        refine am_s_aload_n rfl dc189_1.1.1.1 ?_
        refine am_s_getR (r := 164) dc189_1.1.1.2 rfl rfl rfl (hp _ _ _ rfl) ?_
        refine am_s_iload_n rfl dc189_1.1.2.1 ?_
        refine am_s_dup2 rfl rfl dc189_1.1.2.2 ?_
        refine am_x_iaload (x := I 164 1) dc189_1.2.1.1 rfl (by decide +kernel) am_cN1 rfl ?_
        refine am_s_iconst am_cc1 dc189_1.2.1.2 ?_
        refine am_s_iadd dc189_1.2.2.1 ?_
        refine am_s_iastore dc189_1.2.2.2 rfl (by decide +kernel) am_cN1 ?_
        refine am_s_aload_n rfl dc189_2.1.1 ?_
        refine am_x_getI (x := 1) dc189_2.1.2.1 rfl rfl (Or.inl rfl) rfl ?_
        refine am_s_if_ne dc189_2.1.2.2 rfl (fun _ => ?_) (fun z => absurd z (by decide))
        refine am_s_iconst am_cc0 dc189_2.2.2.1 ?_
        refine am_s_zreturn dc189_2.2.2.2 rfl (by decide) (am_bkI ?_)
        refine am_s_if_ne dc247_2.1.2.2 rfl (fun z => absurd z (by decide)) (fun _ => ?_)
        refine am_s_iconst am_cc0 dc247_2.2.1.1 ?_
        exact am_s_ireturn dc247_2.2.1.2 rfl ((vi_t (vi_f (vi_f q c1) c2) c3))
      · refine am_s_iconst am_cc1 dc247_1.2.1.2 ?_
        refine am_s_goto rfl dc247_1.2.2.1 ?_
        refine am_s_iconst am_cc1 dc247_2.1.1.1 ?_
        refine am_s_iconst am_cc1 dc247_2.1.1.2 ?_
        refine am_s_virtual true dc247_2.1.2.1 rfl (by decide) rfl rfl rfl (am_mth_of rfl rfl ?_)
        refine am_s_iload_n rfl dc189_0.1.1.1 ?_
        refine am_s_if_ne dc189_0.1.1.2 rfl (fun _ => ?_) (fun z => absurd z (by decide))
        refine am_s_aload_n rfl dc189_2.1.1 ?_
        refine am_x_getI (x := 0) dc189_2.1.2.1 rfl rfl (Or.inl rfl) rfl ?_
        refine am_s_if_ne dc189_2.1.2.2 rfl (fun z => absurd z (by decide)) (fun _ => ?_)
        refine am_s_iconst am_cc1 dc189_2.2.1.1 ?_
        refine am_s_goto rfl dc189_2.2.1.2 ?_
        refine am_s_zreturn dc189_2.2.2.2 rfl (by decide) (am_bkI ?_)
        refine am_s_if_ne dc247_2.1.2.2 rfl (fun _ => ?_) (fun z => absurd z (by decide))
        refine am_s_aload_n rfl dc247_2.2.2.1 ?_
        refine am_s_iload_n rfl dc247_2.2.2.2 ?_
        refine am_s_virtual true dc247_3.1.1.1 rfl (by decide) rfl rfl rfl (am_mth_of rfl rfl ?_)
        refine am_s_aload_n rfl dc204_0.1.1.1 ?_
        refine am_s_iconst am_cc0 dc204_0.1.1.2 ?_
        refine am_s_putI dc204_0.1.2.1 rfl rfl rfl rfl ?_
        refine am_s_aload_n rfl dc204_0.1.2.2 ?_
        refine am_s_iconst am_ccm1 dc204_0.2.1.1 ?_
        refine am_s_putI dc204_0.2.1.2 rfl rfl rfl rfl ?_
        refine am_s_aload_n rfl dc204_0.2.2.1 ?_
        refine am_s_iload_n rfl dc204_0.2.2.2 ?_
        refine am_s_putI dc204_1.1.1.1 rfl rfl rfl rfl ?_
        refine am_s_aload_n rfl dc204_1.1.1.2 ?_
        refine am_s_iconst am_cc0 dc204_1.1.2.1 ?_
        refine am_s_putI dc204_1.1.2.2 rfl rfl rfl rfl ?_
        refine am_s_aload_n rfl dc204_1.2.1.1 ?_
        refine am_s_iconst am_ccm1 dc204_1.2.1.2 ?_
        refine am_s_putI dc204_1.2.2.1 rfl rfl rfl rfl ?_
        refine am_s_aload_n rfl dc204_1.2.2.2 ?_
        refine am_s_iconst am_cc0 dc204_2.1.1 ?_
        refine am_s_putI dc204_2.1.2.1 rfl rfl rfl rfl ?_
        refine am_s_aload_n rfl dc204_2.1.2.2 ?_
        refine am_s_iconst am_ccm1 dc204_2.2.1 ?_
        refine am_s_putI dc204_2.2.2.1 rfl rfl rfl rfl ?_
        refine am_s_return dc204_2.2.2.2 rfl (am_bkV ?_)
        refine am_s_aload_n rfl dc247_3.1.1.2 ?_
        refine am_x_getI (x := I 163 34) dc247_3.1.2.1 rfl rfl (Or.inl rfl) rfl ?_
        refine am_s_bipush am_cb16 dc247_3.1.2.2 ?_
        refine am_s_ic_ne dc247_3.2.1.1 rfl (fun c4 => ?_) (fun c4 => ?_)
        · refine am_s_aload_n rfl dc247_4.1.2.2 ?_
          refine am_s_iconst am_cc0 dc247_4.2.1.1 ?_
          refine am_s_putI dc247_4.2.1.2 rfl rfl rfl rfl ?_
          refine am_s_iconst am_cc0 dc247_4.2.2.1 ?_
          refine am_s_istore_n (ls' := [some (.ref 163), some (.int x1), some (.int 0), l3, l4]) rfl rfl dc247_4.2.2.2 ?_
          exact (vi_f (vi_f (vi_f (vi_f q c1) c2) c3) c4)
        · refine am_s_aload_n rfl dc247_3.2.1.2 ?_
          refine am_s_iconst am_cc0 dc247_3.2.2.1 ?_
          refine am_s_virtual true dc247_3.2.2.2 rfl (by decide) rfl rfl rfl (am_mth_of rfl rfl ?_)
          refine am_s_aload_n rfl dc205_0.1.1.1 ?_
          refine am_s_aload_n rfl dc205_0.1.1.2 ?_
          refine am_x_getI (x := (-1)) dc205_0.1.2.1 rfl rfl (Or.inl rfl) rfl ?_
          refine am_s_putI dc205_0.1.2.2 rfl rfl rfl rfl ?_
          refine am_s_aload_n rfl dc205_0.2.1.1 ?_
          refine am_s_virtual true dc205_0.2.1.2 rfl (by decide) rfl rfl rfl (am_mth_of rfl rfl ?_)
          refine am_s_aload_n rfl dc193_0.1.1.1 ?_
          refine am_x_getI (x := (-1)) dc193_0.1.1.2 rfl rfl (Or.inl rfl) rfl ?_
          refine am_s_iconst am_ccm1 dc193_0.1.2.1 ?_
          refine am_s_ic_ne dc193_0.1.2.2 rfl (fun z => absurd z (by decide)) (fun _ => ?_)
          refine am_s_iconst am_cc1 dc193_0.2.1.1 ?_
          refine am_s_goto rfl dc193_0.2.1.2 ?_
          refine am_s_zreturn dc193_0.2.2.2 rfl (by decide) (am_bkI ?_)
          refine am_s_if_eq dc205_0.2.2.1 rfl (fun z => absurd z (by decide)) (fun _ => ?_)
          refine am_s_iload_n rfl dc205_0.2.2.2 ?_
          refine am_s_goto rfl dc205_1.1.1 ?_
          refine am_s_ireturn dc205_1.2.2.2 rfl (am_bkI ?_)
          refine am_s_pop rfl dc247_4.1.1.1 ?_
          refine am_s_bipush am_cbm20 dc247_4.1.1.2 ?_
          exact am_s_ireturn dc247_4.1.2.1 rfl ((vi_t (vi_f (vi_f (vi_f q c1) c2) c3) (Decidable.not_not.mp c4)))
theorem v247_70 {sc : Option (Nat × (Nat → Int32))} {d k n : Nat} {P : am_O → Prop} {I : am_I} {J : am_J} {Pf : am_R} (hp : am_PF Pf) {l1 : Option Value} {x2 : Int32} {l3 : Option Value} {l4 : Option Value} (q : (if (I 163 5) = (-1) then (am_mth (d + 1) 203 [.ref 163] (am_SH, I, J, Pf) (am_af sc (d + 1) 247 78 [some (.ref 163), l1, some (.int x2), l3, l4] [.ref 163] [] (am_SH, I, J, Pf) k n true P)) else (am_go sc (d + 1) 247 (101, [some (.ref 163), l1, some (.int x2), l3, l4], [], (am_SH, I, J, Pf), k, n) P))) : am_go sc (d + 1) 247 (70, [some (.ref 163), l1, some (.int x2), l3, l4], [], (am_SH, I, J, Pf), k, n) P := by
  refine am_s_aload_n rfl dc247_5.1.1.1 ?_
  refine am_s_virtual true dc247_5.1.1.2 rfl (by decide) rfl rfl rfl (am_mth_of rfl rfl ?_)
  refine am_s_aload_n rfl dc193_0.1.1.1 ?_
  refine am_x_getI (x := I 163 5) dc193_0.1.1.2 rfl rfl (Or.inl rfl) rfl ?_
  refine am_s_iconst am_ccm1 dc193_0.1.2.1 ?_
  refine am_s_ic_ne dc193_0.1.2.2 rfl (fun c1 => ?_) (fun c1 => ?_)
  · refine am_s_iconst am_cc0 dc193_0.2.2.1 ?_
    refine am_s_zreturn dc193_0.2.2.2 rfl (by decide) (am_bkI ?_)
    refine am_s_if_eq dc247_5.1.2.1 rfl (fun _ => ?_) (fun z => absurd z (by decide))
    exact (vi_f q c1)
  · refine am_s_iconst am_cc1 dc193_0.2.1.1 ?_
    refine am_s_goto rfl dc193_0.2.1.2 ?_
    refine am_s_zreturn dc193_0.2.2.2 rfl (by decide) (am_bkI ?_)
    refine am_s_if_eq dc247_5.1.2.1 rfl (fun z => absurd z (by decide)) (fun _ => ?_)
    refine am_s_aload_n rfl dc247_5.1.2.2 ?_
    exact am_s_virtual true dc247_5.2.1.1 rfl (by decide) rfl rfl rfl ((vi_t q (Decidable.not_not.mp c1)))
theorem v247_101 {sc : Option (Nat × (Nat → Int32))} {d k n : Nat} {P : am_O → Prop} {I : am_I} {J : am_J} {Pf : am_R} (hp : am_PF Pf) {l1 : Option Value} {x2 : Int32} {l3 : Option Value} {l4 : Option Value} (q : (if (I 163 5) = (-1) then (am_mth (d + 2) 207 [.ref 163, .ref 178, .ref 179, .int (I 163 33)] (am_SH, am_u I 163 8 (I 163 5), J, Pf) (am_af sc (d + 2) 247 135 [some (.ref 163), l1, some (.int x2), some (.int 0), l4] [.int (I 163 33), .ref 179, .ref 178, .ref 163] [] (am_SH, am_u I 163 8 (I 163 5), J, Pf) k n true P)) else (P (.inl (some (.int ((I 163 6) - 10))), (am_SH, am_u (am_u I 163 8 (I 163 5)) 163 10 x2, J, Pf), k, n)))) : am_go sc (d + 2) 247 (101, [some (.ref 163), l1, some (.int x2), l3, l4], [], (am_SH, I, J, Pf), k, n) P := by
  refine am_s_aload_n rfl dc247_6.2.1.2 ?_
  refine am_s_iconst am_cc0 dc247_6.2.2.1 ?_
  refine am_s_virtual true dc247_6.2.2.2 rfl (by decide) rfl rfl rfl (am_mth_of rfl rfl ?_)
  refine am_s_aload_n rfl dc205_0.1.1.1 ?_
  refine am_s_aload_n rfl dc205_0.1.1.2 ?_
  refine am_x_getI (x := I 163 5) dc205_0.1.2.1 rfl rfl (Or.inl rfl) rfl ?_
  refine am_s_putI dc205_0.1.2.2 rfl rfl rfl rfl ?_
  refine am_s_aload_n rfl dc205_0.2.1.1 ?_
  refine am_s_virtual true dc205_0.2.1.2 rfl (by decide) rfl rfl rfl (am_mth_of rfl rfl ?_)
  refine am_s_aload_n rfl dc193_0.1.1.1 ?_
  refine am_x_getI (x := I 163 5) dc193_0.1.1.2 rfl rfl (Or.inl rfl) rfl ?_
  refine am_s_iconst am_ccm1 dc193_0.1.2.1 ?_
  refine am_s_ic_ne dc193_0.1.2.2 rfl (fun c1 => ?_) (fun c1 => ?_)
  · refine am_s_iconst am_cc0 dc193_0.2.2.1 ?_
    refine am_s_zreturn dc193_0.2.2.2 rfl (by decide) (am_bkI ?_)
    refine am_s_if_eq dc205_0.2.2.1 rfl (fun _ => ?_) (fun z => absurd z (by decide))
    refine am_s_aload_n rfl dc205_1.1.2.1 ?_
    refine am_x_getI (x := I 163 6) dc205_1.1.2.2 rfl rfl (Or.inl rfl) rfl ?_
    refine am_s_bipush am_cb10 dc205_1.2.1 ?_
    refine am_s_isub dc205_1.2.2.1 ?_
    refine am_s_ireturn dc205_1.2.2.2 rfl (am_bkI ?_)
    refine am_s_istore_n (ls' := [some (.ref 163), l1, some (.int x2), some (.int ((I 163 6) - 10)), l4]) rfl rfl dc247_7.1.1.1 ?_
    refine am_s_aload_n rfl dc247_7.1.1.2 ?_
    refine am_x_getI (x := I 163 5) dc247_7.1.2.1 rfl rfl (Or.inl rfl) rfl ?_
    refine am_s_iconst am_ccm1 dc247_7.1.2.2 ?_
    refine am_s_ic_eq dc247_7.2.1.1 rfl (fun z => absurd z c1) (fun _ => ?_)
    refine am_s_aload_n rfl dc247_7.2.1.2 ?_
    refine am_s_iload_n rfl dc247_7.2.2.1 ?_
    refine am_s_putI dc247_7.2.2.2 rfl rfl rfl rfl ?_
    refine am_s_iload_n rfl dc247_8.1.1.1 ?_
    exact am_s_ireturn dc247_8.1.1.2 rfl ((vi_f q c1))
  · refine am_s_iconst am_cc1 dc193_0.2.1.1 ?_
    refine am_s_goto rfl dc193_0.2.1.2 ?_
    refine am_s_zreturn dc193_0.2.2.2 rfl (by decide) (am_bkI ?_)
    refine am_s_if_eq dc205_0.2.2.1 rfl (fun z => absurd z (by decide)) (fun _ => ?_)
    refine am_s_iload_n rfl dc205_0.2.2.2 ?_
    refine am_s_goto rfl dc205_1.1.1 ?_
    refine am_s_ireturn dc205_1.2.2.2 rfl (am_bkI ?_)
    refine am_s_istore_n (ls' := [some (.ref 163), l1, some (.int x2), some (.int 0), l4]) rfl rfl dc247_7.1.1.1 ?_
    refine am_s_aload_n rfl dc247_7.1.1.2 ?_
    refine am_x_getI (x := I 163 5) dc247_7.1.2.1 rfl rfl (Or.inl rfl) rfl ?_
    refine am_s_iconst am_ccm1 dc247_7.1.2.2 ?_
    refine am_s_ic_eq dc247_7.2.1.1 rfl (fun _ => ?_) (fun z => absurd z c1)
    refine am_s_aload_n rfl dc247_8.1.2.1 ?_
    refine am_s_aload_n rfl dc247_8.1.2.2 ?_
    refine am_s_getR (r := 178) dc247_8.2.1.1 rfl rfl rfl (hp _ _ _ rfl) ?_
    refine am_s_aload_n rfl dc247_8.2.1.2 ?_
    refine am_s_getR (r := 179) dc247_8.2.2.1 rfl rfl rfl (hp _ _ _ rfl) ?_
    refine am_s_aload_n rfl dc247_8.2.2.2 ?_
    refine am_x_getI (x := I 163 33) dc247_9.1.1.1 rfl rfl (Or.inl rfl) rfl ?_
    exact am_s_virtual true dc247_9.1.1.2 rfl (by decide) rfl rfl rfl ((vi_t q (Decidable.not_not.mp c1)))
theorem v247_141 {sc : Option (Nat × (Nat → Int32))} {d k n : Nat} {P : am_O → Prop} {I : am_I} {J : am_J} {Pf : am_R} (hp : am_PF Pf) {l1 : Option Value} {l2 : Option Value} {l3 : Option Value} {x4 : Int32} (hl3 : am_k1 l3 = true) (q : (if 25 ≤ x4 then (am_mth d 249 [.ref 163, .int 0, .int (I 163 33)] (am_SH, am_u (am_u (am_u (am_u I 163 34 ((I 163 34) + 1)) 163 36 0) 163 37 0) 163 38 0, J, Pf) (am_af sc d 247 207 [some (.ref 163), l1, l2, l3, some (.int x4)] [.int (I 163 33), .int 0, .ref 163] [] (am_SH, am_u (am_u (am_u (am_u I 163 34 ((I 163 34) + 1)) 163 36 0) 163 37 0) 163 38 0, J, Pf) k n true P)) else (am_in x4 25 = true) ∧ (am_in ((25 * (I 163 34)) + x4) 400 = true) ∧ (am_go sc d 247 (141, [some (.ref 163), l1, l2, l3, some (.int (x4 + 1))], [], (am_SH, am_u I 182 (Int32.toNatClampNeg ((25 * (I 163 34)) + x4)) (I 180 (Int32.toNatClampNeg x4)), J, Pf), k, n) P))) : am_go sc d 247 (141, [some (.ref 163), l1, l2, l3, some (.int x4)], [], (am_SH, I, J, Pf), k, n) P := by
  refine am_s_iload rfl dc247_9.2.1.1 ?_
  refine am_s_bipush am_cb25 dc247_9.2.1.2 ?_
  refine am_s_ic_ge dc247_9.2.2.1 rfl (fun c1 => ?_) (fun c1 => ?_)
  · refine am_s_aload_n rfl dc247_11.2.2.1 ?_
    refine am_s_dup rfl dc247_11.2.2.2 ?_
    refine am_x_getI (x := I 163 34) dc247_12.1.1.1 rfl rfl (Or.inl rfl) rfl ?_
    refine am_s_iconst am_cc1 dc247_12.1.1.2 ?_
    refine am_s_iadd dc247_12.1.2.1 ?_
    refine am_s_putI dc247_12.1.2.2 rfl rfl rfl rfl ?_
    refine am_s_aload_n rfl dc247_12.2.1.1 ?_
    refine am_s_iconst am_cc0 dc247_12.2.1.2 ?_
    refine am_s_putI dc247_12.2.2.1 rfl rfl rfl rfl ?_
    refine am_s_aload_n rfl dc247_12.2.2.2 ?_
    refine am_s_iconst am_cc0 dc247_13.1.1.1 ?_
    refine am_s_putI dc247_13.1.1.2 rfl rfl rfl rfl ?_
    refine am_s_aload_n rfl dc247_13.1.2.1 ?_
    refine am_s_iconst am_cc0 dc247_13.1.2.2 ?_
    refine am_s_putI dc247_13.2.1.1 rfl rfl rfl rfl ?_
    refine am_s_aload_n rfl dc247_13.2.1.2 ?_
    refine am_s_iconst am_cc0 dc247_13.2.2.1 ?_
    refine am_s_aload_n rfl dc247_13.2.2.2 ?_
    refine am_x_getI (x := I 163 33) dc247_14.1.1.1 rfl rfl (Or.inl rfl) rfl ?_
    exact am_s_virtual true dc247_14.1.1.2 rfl (by decide) rfl rfl rfl ((vi_t q c1))
  · refine am_s_aload_n rfl dc247_9.2.2.2 ?_
    refine am_s_getR (r := 182) dc247_10.1.1.1 rfl rfl rfl (hp _ _ _ rfl) ?_
    refine am_s_bipush am_cb25 dc247_10.1.1.2 ?_
    refine am_s_aload_n rfl dc247_10.1.2.1 ?_
    refine am_x_getI (x := I 163 34) dc247_10.1.2.2 rfl rfl (Or.inl rfl) rfl ?_
    refine am_s_imul dc247_10.2.1.1 ?_
    refine am_s_iload rfl dc247_10.2.1.2 ?_
    refine am_s_iadd dc247_10.2.2.1 ?_
    refine am_s_aload_n rfl dc247_10.2.2.2 ?_
    refine am_s_getR (r := 180) dc247_11.1.1.1 rfl rfl rfl (hp _ _ _ rfl) ?_
    refine am_s_iload rfl dc247_11.1.1.2 ?_
    refine am_x_iaload (x := I 180 (Int32.toNatClampNeg x4)) dc247_11.1.2.1 rfl ((vi_f q c1).1) rfl rfl ?_
    refine am_s_iastore dc247_11.1.2.2 rfl ((vi_f q c1).2.1) rfl ?_
    refine am_s_iinc (ls' := [some (.ref 163), l1, l2, l3, some (.int (x4 + 1))]) am_cc1 rfl (am_set1_k (am_kill_x (j := 3) rfl hl3) rfl) dc247_11.2.1.1 ?_
    refine am_s_goto rfl dc247_11.2.1.2 ?_
    exact (vi_f q c1).2.2
theorem v247_81 {sc : Option (Nat × (Nat → Int32))} {d k n : Nat} {P : am_O → Prop} {I : am_I} {J : am_J} {Pf : am_R} (hp : am_PF Pf) {l1 : Option Value} {x2 : Int32} {l3 : Option Value} {l4 : Option Value} {s0 : Int32} (q : (if s0 = 0 then (am_go sc d 247 (101, [some (.ref 163), l1, some (.int x2), l3, l4], [], (am_SH, I, J, Pf), k, n) P) else (am_mth d 246 [.ref 163] (am_SH, I, J, Pf) (am_af sc d 247 85 [some (.ref 163), l1, some (.int x2), l3, l4] [.ref 163] [] (am_SH, I, J, Pf) k n true P)))) : am_go sc d 247 (81, [some (.ref 163), l1, some (.int x2), l3, l4], [.int s0], (am_SH, I, J, Pf), k, n) P := by
  refine am_s_if_eq dc247_5.2.1.2 rfl (fun c1 => ?_) (fun c1 => ?_)
  · exact (vi_t q c1)
  · refine am_s_aload_n rfl dc247_5.2.2.1 ?_
    exact am_s_virtual true dc247_5.2.2.2 rfl (by decide) rfl rfl rfl ((vi_f q c1))
theorem v247_138 {sc : Option (Nat × (Nat → Int32))} {d k n : Nat} {P : am_O → Prop} {I : am_I} {J : am_J} {Pf : am_R} (hp : am_PF Pf) {l1 : Option Value} {l2 : Option Value} {l3 : Option Value} {l4 : Option Value} (hl3 : am_k1 l3 = true) (q : (am_go sc d 247 (141, [some (.ref 163), l1, l2, l3, some (.int 0)], [], (am_SH, I, J, Pf), k, n) P)) : am_go sc d 247 (138, [some (.ref 163), l1, l2, l3, l4], [], (am_SH, I, J, Pf), k, n) P := by
  refine am_s_iconst am_cc0 dc247_9.1.2.1 ?_
  refine am_s_istore (ls' := [some (.ref 163), l1, l2, l3, some (.int 0)]) rfl (am_set1_k (am_kill_x (j := 3) rfl hl3) rfl) dc247_9.1.2.2 ?_
  exact q
theorem v247_210 {sc : Option (Nat × (Nat → Int32))} {d k n : Nat} {P : am_O → Prop} {I : am_I} {J : am_J} {Pf : am_R} (hp : am_PF Pf) {l1 : Option Value} {l2 : Option Value} {l3 : Option Value} {l4 : Option Value} (q : (P (.inl (some (.int (I 163 37))), (am_SH, am_u (am_u I 163 46 0) 163 35 (I 163 38), J, Pf), k, n))) : am_go sc d 247 (210, [some (.ref 163), l1, l2, l3, l4], [], (am_SH, I, J, Pf), k, n) P := by
  refine am_s_aload_n rfl dc247_14.1.2.1 ?_
  refine am_s_iconst am_cc0 dc247_14.1.2.2 ?_
  refine am_s_putZ dc247_14.2.1.1 rfl rfl rfl rfl (by decide) ?_
  refine am_s_aload_n rfl dc247_14.2.1.2 ?_
  refine am_s_aload_n rfl dc247_14.2.2.1 ?_
  refine am_x_getI (x := I 163 38) dc247_14.2.2.2 rfl rfl (Or.inl rfl) rfl ?_
  refine am_s_putI dc247_15.1.1 rfl rfl rfl rfl ?_
  refine am_s_aload_n rfl dc247_15.1.2 ?_
  refine am_x_getI (x := I 163 37) dc247_15.2.1 rfl rfl (Or.inl rfl) rfl ?_
  exact am_s_ireturn dc247_15.2.2 rfl (q)
theorem v247_88 {sc : Option (Nat × (Nat → Int32))} {d k n : Nat} {P : am_O → Prop} {I : am_I} {J : am_J} {Pf : am_R} (hp : am_PF Pf) {l1 : Option Value} {x2 : Int32} {l3 : Option Value} {l4 : Option Value} (hl1 : am_k1 l1 = true) (q : (if (I 163 5) = (-1) then (am_go sc (d + 1) 247 (70, [some (.ref 163), l1, some (.int (x2 + 1)), l3, l4], [], (am_SH, I, J, Pf), k, n) P) else (am_go sc (d + 1) 247 (70, [some (.ref 163), l1, some (.int x2), l3, l4], [], (am_SH, I, J, Pf), k, n) P))) : am_go sc (d + 1) 247 (88, [some (.ref 163), l1, some (.int x2), l3, l4], [], (am_SH, I, J, Pf), k, n) P := by
  refine am_s_aload_n rfl dc247_6.1.1.1 ?_
  refine am_s_virtual true dc247_6.1.1.2 rfl (by decide) rfl rfl rfl (am_mth_of rfl rfl ?_)
  refine am_s_aload_n rfl dc193_0.1.1.1 ?_
  refine am_x_getI (x := I 163 5) dc193_0.1.1.2 rfl rfl (Or.inl rfl) rfl ?_
  refine am_s_iconst am_ccm1 dc193_0.1.2.1 ?_
  refine am_s_ic_ne dc193_0.1.2.2 rfl (fun c1 => ?_) (fun c1 => ?_)
  · refine am_s_iconst am_cc0 dc193_0.2.2.1 ?_
    refine am_s_zreturn dc193_0.2.2.2 rfl (by decide) (am_bkI ?_)
    refine am_s_if_eq dc247_6.1.2.1 rfl (fun _ => ?_) (fun z => absurd z (by decide))
    exact (vi_f q c1)
  · refine am_s_iconst am_cc1 dc193_0.2.1.1 ?_
    refine am_s_goto rfl dc193_0.2.1.2 ?_
    refine am_s_zreturn dc193_0.2.2.2 rfl (by decide) (am_bkI ?_)
    refine am_s_if_eq dc247_6.1.2.1 rfl (fun z => absurd z (by decide)) (fun _ => ?_)
    refine am_s_iinc (ls' := [some (.ref 163), l1, some (.int (x2 + 1)), l3, l4]) am_cc1 rfl (am_set1_k (am_kill_x (j := 1) rfl hl1) rfl) dc247_6.1.2.2 ?_
    refine am_s_goto rfl dc247_6.2.1.1 ?_
    exact (vi_t q (Decidable.not_not.mp c1))
