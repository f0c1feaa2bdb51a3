/-! Walks: sorts -/
-- findNeeds (LPrunedParses$Rules;)V
theorem dc91_0 : (((decode (am_by 91) 0 = .ok (.aload_n 0, 1)) ∧ (decode (am_by 91) 1 = .ok (.getfield 9, 3))) ∧ ((decode (am_by 91) 4 = .ok (.iconst 0, 1)) ∧ (decode (am_by 91) 5 = .ok (.invokestatic 38, 3)))) ∧ (((decode (am_by 91) 8 = .ok (.aload_n 0, 1)) ∧ (decode (am_by 91) 9 = .ok (.getfield 15, 3))) ∧ ((decode (am_by 91) 12 = .ok (.iconst 0, 1)) ∧ (decode (am_by 91) 13 = .ok (.invokestatic 38, 3)))) := by decide +kernel
theorem dc91_1 : (((decode (am_by 91) 16 = .ok (.iconst 0, 1)) ∧ (decode (am_by 91) 17 = .ok (.istore_n 2, 1))) ∧ ((decode (am_by 91) 18 = .ok (.iload_n 2, 1)) ∧ (decode (am_by 91) 19 = .ok (.aload_n 1, 1)))) ∧ (((decode (am_by 91) 20 = .ok (.getfield 44, 3)) ∧ (decode (am_by 91) 23 = .ok (.if_icmp .ge 65, 3))) ∧ ((decode (am_by 91) 26 = .ok (.iload_n 2, 1)) ∧ (decode (am_by 91) 27 = .ok (.iconst 4, 1)))) := by decide +kernel
theorem dc91_2 : (((decode (am_by 91) 28 = .ok (.imul, 1)) ∧ (decode (am_by 91) 29 = .ok (.istore_n 3, 1))) ∧ ((decode (am_by 91) 30 = .ok (.iload_n 3, 1)) ∧ (decode (am_by 91) 31 = .ok (.iload_n 2, 1)))) ∧ (((decode (am_by 91) 32 = .ok (.iconst 4, 1)) ∧ (decode (am_by 91) 33 = .ok (.imul, 1))) ∧ ((decode (am_by 91) 34 = .ok (.aload_n 1, 1)) ∧ (decode (am_by 91) 35 = .ok (.getfield 50, 3)))) := by decide +kernel
theorem dc91_3 : (((decode (am_by 91) 38 = .ok (.iload_n 2, 1)) ∧ (decode (am_by 91) 39 = .ok (.iaload, 1))) ∧ ((decode (am_by 91) 40 = .ok (.iadd, 1)) ∧ (decode (am_by 91) 41 = .ok (.if_icmp .ge 41, 3)))) ∧ (((decode (am_by 91) 44 = .ok (.aload_n 1, 1)) ∧ (decode (am_by 91) 45 = .ok (.getfield 53, 3))) ∧ ((decode (am_by 91) 48 = .ok (.iload_n 3, 1)) ∧ (decode (am_by 91) 49 = .ok (.iaload, 1)))) := by decide +kernel
theorem dc91_4 : (((decode (am_by 91) 50 = .ok (.iconst 1, 1)) ∧ (decode (am_by 91) 51 = .ok (.if_icmp .ne 25, 3))) ∧ ((decode (am_by 91) 54 = .ok (.aload_n 0, 1)) ∧ (decode (am_by 91) 55 = .ok (.getfield 9, 3)))) ∧ (((decode (am_by 91) 58 = .ok (.aload_n 1, 1)) ∧ (decode (am_by 91) 59 = .ok (.getfield 56, 3))) ∧ ((decode (am_by 91) 62 = .ok (.iload_n 2, 1)) ∧ (decode (am_by 91) 63 = .ok (.iaload, 1)))) := by decide +kernel
theorem dc91_5 : (((decode (am_by 91) 64 = .ok (.dup2, 1)) ∧ (decode (am_by 91) 65 = .ok (.iaload, 1))) ∧ ((decode (am_by 91) 66 = .ok (.iconst 1, 1)) ∧ (decode (am_by 91) 67 = .ok (.aload_n 1, 1)))) ∧ (((decode (am_by 91) 68 = .ok (.getfield 59, 3)) ∧ (decode (am_by 91) 71 = .ok (.iload_n 3, 1))) ∧ ((decode (am_by 91) 72 = .ok (.iaload, 1)) ∧ (decode (am_by 91) 73 = .ok (.ishl, 1)))) := by decide +kernel
theorem dc91_6 : (((decode (am_by 91) 74 = .ok (.ior, 1)) ∧ (decode (am_by 91) 75 = .ok (.iastore, 1))) ∧ ((decode (am_by 91) 76 = .ok (.iinc 3 1, 3)) ∧ (decode (am_by 91) 79 = .ok (.goto (-49), 3)))) ∧ (((decode (am_by 91) 82 = .ok (.iinc 2 1, 3)) ∧ (decode (am_by 91) 85 = .ok (.goto (-67), 3))) ∧ ((decode (am_by 91) 88 = .ok (.iconst 0, 1)) ∧ (decode (am_by 91) 89 = .ok (.istore_n 2, 1)))) := by decide +kernel
theorem dc91_7 : (((decode (am_by 91) 90 = .ok (.iload_n 2, 1)) ∧ (decode (am_by 91) 91 = .ok (.aload_n 1, 1))) ∧ ((decode (am_by 91) 92 = .ok (.getfield 62, 3)) ∧ (decode (am_by 91) 95 = .ok (.if_icmp .ge 31, 3)))) ∧ (((decode (am_by 91) 98 = .ok (.aload_n 0, 1)) ∧ (decode (am_by 91) 99 = .ok (.getfield 9, 3))) ∧ ((decode (am_by 91) 102 = .ok (.aload_n 1, 1)) ∧ (decode (am_by 91) 103 = .ok (.getfield 65, 3)))) := by decide +kernel
theorem dc91_8 : (((decode (am_by 91) 106 = .ok (.iload_n 2, 1)) ∧ (decode (am_by 91) 107 = .ok (.iaload, 1))) ∧ ((decode (am_by 91) 108 = .ok (.dup2, 1)) ∧ (decode (am_by 91) 109 = .ok (.iaload, 1)))) ∧ (((decode (am_by 91) 110 = .ok (.iconst 1, 1)) ∧ (decode (am_by 91) 111 = .ok (.aload_n 1, 1))) ∧ ((decode (am_by 91) 112 = .ok (.getfield 68, 3)) ∧ (decode (am_by 91) 115 = .ok (.iload_n 2, 1)))) := by decide +kernel
theorem dc91_9 : (((decode (am_by 91) 116 = .ok (.iaload, 1)) ∧ (decode (am_by 91) 117 = .ok (.ishl, 1))) ∧ ((decode (am_by 91) 118 = .ok (.ior, 1)) ∧ (decode (am_by 91) 119 = .ok (.iastore, 1)))) ∧ (((decode (am_by 91) 120 = .ok (.iinc 2 1, 3)) ∧ (decode (am_by 91) 123 = .ok (.goto (-33), 3))) ∧ ((decode (am_by 91) 126 = .ok (.iconst 0, 1)) ∧ (decode (am_by 91) 127 = .ok (.istore_n 2, 1)))) := by decide +kernel
theorem dc91_10 : (((decode (am_by 91) 128 = .ok (.iload_n 2, 1)) ∧ (decode (am_by 91) 129 = .ok (.aload_n 1, 1))) ∧ ((decode (am_by 91) 130 = .ok (.getfield 71, 3)) ∧ (decode (am_by 91) 133 = .ok (.if_icmp .ge 31, 3)))) ∧ (((decode (am_by 91) 136 = .ok (.aload_n 0, 1)) ∧ (decode (am_by 91) 137 = .ok (.getfield 15, 3))) ∧ ((decode (am_by 91) 140 = .ok (.aload_n 1, 1)) ∧ (decode (am_by 91) 141 = .ok (.getfield 74, 3)))) := by decide +kernel
theorem dc91_11 : (((decode (am_by 91) 144 = .ok (.iload_n 2, 1)) ∧ (decode (am_by 91) 145 = .ok (.iaload, 1))) ∧ ((decode (am_by 91) 146 = .ok (.dup2, 1)) ∧ (decode (am_by 91) 147 = .ok (.iaload, 1)))) ∧ (((decode (am_by 91) 148 = .ok (.iconst 1, 1)) ∧ (decode (am_by 91) 149 = .ok (.aload_n 1, 1))) ∧ ((decode (am_by 91) 150 = .ok (.getfield 77, 3)) ∧ (decode (am_by 91) 153 = .ok (.iload_n 2, 1)))) := by decide +kernel
theorem dc91_12 : (((decode (am_by 91) 154 = .ok (.iaload, 1)) ∧ (decode (am_by 91) 155 = .ok (.ishl, 1))) ∧ ((decode (am_by 91) 156 = .ok (.ior, 1)) ∧ (decode (am_by 91) 157 = .ok (.iastore, 1)))) ∧ (((decode (am_by 91) 158 = .ok (.iinc 2 1, 3)) ∧ (decode (am_by 91) 161 = .ok (.goto (-33), 3))) ∧ ((decode (am_by 91) 164 = .ok (.iconst 0, 1)) ∧ (decode (am_by 91) 165 = .ok (.istore_n 2, 1)))) := by decide +kernel
theorem dc91_13 : (((decode (am_by 91) 166 = .ok (.iload_n 2, 1)) ∧ (decode (am_by 91) 167 = .ok (.bipush 8, 2))) ∧ ((decode (am_by 91) 169 = .ok (.if_icmp .ge 28, 3)) ∧ (decode (am_by 91) 172 = .ok (.aload_n 0, 1)))) ∧ (((decode (am_by 91) 173 = .ok (.getfield 18, 3)) ∧ (decode (am_by 91) 176 = .ok (.iload_n 2, 1))) ∧ ((decode (am_by 91) 177 = .ok (.aload_n 0, 1)) ∧ (decode (am_by 91) 178 = .ok (.getfield 9, 3)))) := by decide +kernel
theorem dc91_14 : (((decode (am_by 91) 181 = .ok (.iload_n 2, 1)) ∧ (decode (am_by 91) 182 = .ok (.iaload, 1))) ∧ ((decode (am_by 91) 183 = .ok (.aload_n 0, 1)) ∧ (decode (am_by 91) 184 = .ok (.getfield 15, 3)))) ∧ (((decode (am_by 91) 187 = .ok (.iload_n 2, 1)) ∧ (decode (am_by 91) 188 = .ok (.iaload, 1))) ∧ ((decode (am_by 91) 189 = .ok (.ior, 1)) ∧ (decode (am_by 91) 190 = .ok (.iastore, 1)))) := by decide +kernel
theorem dc91_15 : (((decode (am_by 91) 191 = .ok (.iinc 2 1, 3)) ∧ (decode (am_by 91) 194 = .ok (.goto (-28), 3))) ∧ ((decode (am_by 91) 197 = .ok (.iconst 0, 1)) ∧ (decode (am_by 91) 198 = .ok (.istore_n 2, 1)))) ∧ (((decode (am_by 91) 199 = .ok (.iload_n 2, 1)) ∧ (decode (am_by 91) 200 = .ok (.bipush 8, 2))) ∧ ((decode (am_by 91) 202 = .ok (.if_icmp .ge 51, 3)) ∧ (decode (am_by 91) 205 = .ok (.iconst 0, 1)))) := by decide +kernel
theorem dc91_16 : (((decode (am_by 91) 206 = .ok (.istore_n 3, 1)) ∧ (decode (am_by 91) 207 = .ok (.iload_n 3, 1))) ∧ ((decode (am_by 91) 208 = .ok (.bipush 8, 2)) ∧ (decode (am_by 91) 210 = .ok (.if_icmp .ge 37, 3)))) ∧ (((decode (am_by 91) 213 = .ok (.aload_n 0, 1)) ∧ (decode (am_by 91) 214 = .ok (.getfield 18, 3))) ∧ ((decode (am_by 91) 217 = .ok (.iload_n 3, 1)) ∧ (decode (am_by 91) 218 = .ok (.iaload, 1)))) := by decide +kernel
theorem dc91_17 : (((decode (am_by 91) 219 = .ok (.iload_n 2, 1)) ∧ (decode (am_by 91) 220 = .ok (.iushr, 1))) ∧ ((decode (am_by 91) 221 = .ok (.iconst 1, 1)) ∧ (decode (am_by 91) 222 = .ok (.iand, 1)))) ∧ (((decode (am_by 91) 223 = .ok (.ifCond .eq 18, 3)) ∧ (decode (am_by 91) 226 = .ok (.aload_n 0, 1))) ∧ ((decode (am_by 91) 227 = .ok (.getfield 18, 3)) ∧ (decode (am_by 91) 230 = .ok (.iload_n 3, 1)))) := by decide +kernel
theorem dc91_18 : (((decode (am_by 91) 231 = .ok (.dup2, 1)) ∧ (decode (am_by 91) 232 = .ok (.iaload, 1))) ∧ ((decode (am_by 91) 233 = .ok (.aload_n 0, 1)) ∧ (decode (am_by 91) 234 = .ok (.getfield 18, 3)))) ∧ (((decode (am_by 91) 237 = .ok (.iload_n 2, 1)) ∧ (decode (am_by 91) 238 = .ok (.iaload, 1))) ∧ ((decode (am_by 91) 239 = .ok (.ior, 1)) ∧ (decode (am_by 91) 240 = .ok (.iastore, 1)))) := by decide +kernel
theorem dc91_19 : ((decode (am_by 91) 241 = .ok (.iinc 3 1, 3)) ∧ (decode (am_by 91) 244 = .ok (.goto (-37), 3))) ∧ ((decode (am_by 91) 247 = .ok (.iinc 2 1, 3)) ∧ ((decode (am_by 91) 250 = .ok (.goto (-51), 3)) ∧ (decode (am_by 91) 253 = .ok (.return_, 1)))) := by decide +kernel
theorem t91_0 {sc : Option (Nat × (Nat → Int32))} {d k n : Nat} {P : am_O → Prop} {I : am_I} {J : am_J} {Pf : am_R} (hp : am_PF Pf) {x0 : Nat} (hx0 : am_SH[x0]? = some (.inl 7)) {x1 : Nat} (hx1 : am_SH[x1]? = some (.inl 4)) {l2 : Option Value} {l3 : Option Value} (q1 : am_mth d 341 [.ref (x0 + 1), .int 0] (am_SH, I, J, Pf) (am_af sc d 91 5 [some (.ref x0), some (.ref x1), l2, l3] [.int 0, .ref (x0 + 1)] [] (am_SH, I, J, Pf) k n false P)) : am_go sc d 91 (0, [some (.ref x0), some (.ref x1), l2, l3], [], (am_SH, I, J, Pf), k, n) P := by
  refine am_s_aload_n rfl dc91_0.1.1.1 ?_
  refine am_s_getR (r := x0 + 1) dc91_0.1.1.2 rfl hx0 rfl (am_r7_0 hp hx0) ?_
  refine am_s_iconst am_cc0 dc91_0.1.2.1 ?_
  exact am_s_static dc91_0.1.2.2 rfl rfl rfl (q1)
theorem t91_18 {sc : Option (Nat × (Nat → Int32))} {d k n : Nat} {P : am_O → Prop} {I : am_I} {J : am_J} {Pf : am_R} (hp : am_PF Pf) {x0 : Nat} (hx0 : am_SH[x0]? = some (.inl 7)) {x1 : Nat} (hx1 : am_SH[x1]? = some (.inl 4)) {x2 : Int32} {l3 : Option Value} (q1 : ((I x1 2) ≤ x2) → am_go sc d 91 (90, [some (.ref x0), some (.ref x1), some (.int 0), l3], [], (am_SH, I, J, Pf), k, n) P) (q2 : (¬ ((I x1 2) ≤ x2)) → am_go sc d 91 (30, [some (.ref x0), some (.ref x1), some (.int x2), some (.int (x2 * 4))], [], (am_SH, I, J, Pf), k, n) P) : am_go sc d 91 (18, [some (.ref x0), some (.ref x1), some (.int x2), l3], [], (am_SH, I, J, Pf), k, n) P := by
  refine am_s_iload_n rfl dc91_1.1.2.1 ?_
  refine am_s_aload_n rfl dc91_1.1.2.2 ?_
  refine am_x_getI (x := I x1 2) dc91_1.2.1.1 rfl hx1 (Or.inl rfl) rfl ?_
  refine am_s_ic_ge dc91_1.2.1.2 rfl (fun c1 => ?_) (fun c1 => ?_)
  · refine am_s_iconst am_cc0 dc91_6.2.2.1 ?_
    refine am_s_istore_n (ls' := [some (.ref x0), some (.ref x1), some (.int 0), l3]) rfl rfl dc91_6.2.2.2 ?_
    exact q1 c1
  · refine am_s_iload_n rfl dc91_1.2.2.1 ?_
    refine am_s_iconst am_cc4 dc91_1.2.2.2 ?_
    refine am_s_imul dc91_2.1.1.1 ?_
    refine am_s_istore_n (ls' := [some (.ref x0), some (.ref x1), some (.int x2), some (.int (x2 * 4))]) rfl rfl dc91_2.1.1.2 ?_
    exact q2 c1
theorem t91_30 {sc : Option (Nat × (Nat → Int32))} {d k n : Nat} {P : am_O → Prop} {I : am_I} {J : am_J} {Pf : am_R} (hp : am_PF Pf) {x0 : Nat} (hx0 : am_SH[x0]? = some (.inl 7)) {x1 : Nat} (hx1 : am_SH[x1]? = some (.inl 4)) {x2 : Int32} {x3 : Int32} (q1 : am_in x2 20 = true) (q2 : (((x2 * 4) + (I (x1 + 4) (Int32.toNatClampNeg x2))) ≤ x3) → am_go sc d 91 (18, [some (.ref x0), some (.ref x1), some (.int (x2 + 1)), some (.int x3)], [], (am_SH, I, J, Pf), k, n) P) (q3 : (¬ (((x2 * 4) + (I (x1 + 4) (Int32.toNatClampNeg x2))) ≤ x3)) → am_in x3 80 = true) (q4 : (¬ (((x2 * 4) + (I (x1 + 4) (Int32.toNatClampNeg x2))) ≤ x3)) → (¬ (I (x1 + 5) (Int32.toNatClampNeg x3)) = 1) → am_go sc d 91 (30, [some (.ref x0), some (.ref x1), some (.int x2), some (.int (x3 + 1))], [], (am_SH, I, J, Pf), k, n) P) (q5 : (¬ (((x2 * 4) + (I (x1 + 4) (Int32.toNatClampNeg x2))) ≤ x3)) → (¬ (¬ (I (x1 + 5) (Int32.toNatClampNeg x3)) = 1)) → am_in x2 20 = true) (q6 : (¬ (((x2 * 4) + (I (x1 + 4) (Int32.toNatClampNeg x2))) ≤ x3)) → (¬ (¬ (I (x1 + 5) (Int32.toNatClampNeg x3)) = 1)) → am_in (I (x1 + 2) (Int32.toNatClampNeg x2)) 8 = true) (q7 : (¬ (((x2 * 4) + (I (x1 + 4) (Int32.toNatClampNeg x2))) ≤ x3)) → (¬ (¬ (I (x1 + 5) (Int32.toNatClampNeg x3)) = 1)) → am_in x3 80 = true) (q8 : (¬ (((x2 * 4) + (I (x1 + 4) (Int32.toNatClampNeg x2))) ≤ x3)) → (¬ (¬ (I (x1 + 5) (Int32.toNatClampNeg x3)) = 1)) → am_in (I (x1 + 2) (Int32.toNatClampNeg x2)) 8 = true) (q9 : (¬ (((x2 * 4) + (I (x1 + 4) (Int32.toNatClampNeg x2))) ≤ x3)) → (¬ (¬ (I (x1 + 5) (Int32.toNatClampNeg x3)) = 1)) → am_go sc d 91 (30, [some (.ref x0), some (.ref x1), some (.int x2), some (.int (x3 + 1))], [], (am_SH, am_u I (x0 + 1) (Int32.toNatClampNeg (I (x1 + 2) (Int32.toNatClampNeg x2))) ((I (x0 + 1) (Int32.toNatClampNeg (I (x1 + 2) (Int32.toNatClampNeg x2)))) ||| (1 <<< ((I (x1 + 6) (Int32.toNatClampNeg x3)) &&& 31))), J, Pf), k, n) P) : am_go sc d 91 (30, [some (.ref x0), some (.ref x1), some (.int x2), some (.int x3)], [], (am_SH, I, J, Pf), k, n) P := by
  refine am_s_iload_n rfl dc91_2.1.2.1 ?_
  refine am_s_iload_n rfl dc91_2.1.2.2 ?_
  refine am_s_iconst am_cc4 dc91_2.2.1.1 ?_
  refine am_s_imul dc91_2.2.1.2 ?_
  refine am_s_aload_n rfl dc91_2.2.2.1 ?_
  refine am_s_getR (r := x1 + 4) dc91_2.2.2.2 rfl hx1 rfl (am_r4_5 hp hx1) ?_
  refine am_s_iload_n rfl dc91_3.1.1.1 ?_
  refine am_x_iaload (x := I (x1 + 4) (Int32.toNatClampNeg x2)) dc91_3.1.1.2 (am_h4_5 hx1) (q1) rfl rfl ?_
  refine am_s_iadd dc91_3.1.2.1 ?_
  refine am_s_ic_ge dc91_3.1.2.2 rfl (fun c1 => ?_) (fun c1 => ?_)
  · refine am_s_iinc (ls' := [some (.ref x0), some (.ref x1), some (.int (x2 + 1)), some (.int x3)]) am_cc1 rfl rfl dc91_6.2.1.1 ?_
    refine am_s_goto rfl dc91_6.2.1.2 ?_
    exact q2 c1
  · refine am_s_aload_n rfl dc91_3.2.1.1 ?_
    refine am_s_getR (r := x1 + 5) dc91_3.2.1.2 rfl hx1 rfl (am_r4_6 hp hx1) ?_
    refine am_s_iload_n rfl dc91_3.2.2.1 ?_
    refine am_x_iaload (x := I (x1 + 5) (Int32.toNatClampNeg x3)) dc91_3.2.2.2 (am_h4_6 hx1) (q3 c1) rfl rfl ?_
    refine am_s_iconst am_cc1 dc91_4.1.1.1 ?_
    refine am_s_ic_ne dc91_4.1.1.2 rfl (fun c2 => ?_) (fun c2 => ?_)
    · refine am_s_iinc (ls' := [some (.ref x0), some (.ref x1), some (.int x2), some (.int (x3 + 1))]) am_cc1 rfl rfl dc91_6.1.2.1 ?_
      refine am_s_goto rfl dc91_6.1.2.2 ?_
      exact q4 c1 c2
    · refine am_s_aload_n rfl dc91_4.1.2.1 ?_
      refine am_s_getR (r := x0 + 1) dc91_4.1.2.2 rfl hx0 rfl (am_r7_0 hp hx0) ?_
      refine am_s_aload_n rfl dc91_4.2.1.1 ?_
      refine am_s_getR (r := x1 + 2) dc91_4.2.1.2 rfl hx1 rfl (am_r4_3 hp hx1) ?_
      refine am_s_iload_n rfl dc91_4.2.2.1 ?_
      refine am_x_iaload (x := I (x1 + 2) (Int32.toNatClampNeg x2)) dc91_4.2.2.2 (am_h4_3 hx1) (q5 c1 c2) rfl rfl ?_
      refine am_s_dup2 rfl rfl dc91_5.1.1.1 ?_
      refine am_x_iaload (x := I (x0 + 1) (Int32.toNatClampNeg (I (x1 + 2) (Int32.toNatClampNeg x2)))) dc91_5.1.1.2 (am_h7_0 hx0) (q6 c1 c2) rfl rfl ?_
      refine am_s_iconst am_cc1 dc91_5.1.2.1 ?_
      refine am_s_aload_n rfl dc91_5.1.2.2 ?_
      refine am_s_getR (r := x1 + 6) dc91_5.2.1.1 rfl hx1 rfl (am_r4_7 hp hx1) ?_
      refine am_s_iload_n rfl dc91_5.2.1.2 ?_
      refine am_x_iaload (x := I (x1 + 6) (Int32.toNatClampNeg x3)) dc91_5.2.2.1 (am_h4_7 hx1) (q7 c1 c2) rfl rfl ?_
      refine am_s_ishl dc91_5.2.2.2 ?_
      refine am_s_ior dc91_6.1.1.1 ?_
      refine am_s_iastore dc91_6.1.1.2 (am_h7_0 hx0) (q8 c1 c2) rfl ?_
      refine am_s_iinc (ls' := [some (.ref x0), some (.ref x1), some (.int x2), some (.int (x3 + 1))]) am_cc1 rfl rfl dc91_6.1.2.1 ?_
      refine am_s_goto rfl dc91_6.1.2.2 ?_
      exact q9 c1 c2
theorem t91_90 {sc : Option (Nat × (Nat → Int32))} {d k n : Nat} {P : am_O → Prop} {I : am_I} {J : am_J} {Pf : am_R} (hp : am_PF Pf) {x0 : Nat} (hx0 : am_SH[x0]? = some (.inl 7)) {x1 : Nat} (hx1 : am_SH[x1]? = some (.inl 4)) {x2 : Int32} {l3 : Option Value} (q1 : ((I x1 9) ≤ x2) → am_go sc d 91 (128, [some (.ref x0), some (.ref x1), some (.int 0), l3], [], (am_SH, I, J, Pf), k, n) P) (q2 : (¬ ((I x1 9) ≤ x2)) → am_in x2 4 = true) (q3 : (¬ ((I x1 9) ≤ x2)) → am_in (I (x1 + 8) (Int32.toNatClampNeg x2)) 8 = true) (q4 : (¬ ((I x1 9) ≤ x2)) → am_in x2 4 = true) (q5 : (¬ ((I x1 9) ≤ x2)) → am_in (I (x1 + 8) (Int32.toNatClampNeg x2)) 8 = true) (q6 : (¬ ((I x1 9) ≤ x2)) → am_go sc d 91 (90, [some (.ref x0), some (.ref x1), some (.int (x2 + 1)), l3], [], (am_SH, am_u I (x0 + 1) (Int32.toNatClampNeg (I (x1 + 8) (Int32.toNatClampNeg x2))) ((I (x0 + 1) (Int32.toNatClampNeg (I (x1 + 8) (Int32.toNatClampNeg x2)))) ||| (1 <<< ((I (x1 + 9) (Int32.toNatClampNeg x2)) &&& 31))), J, Pf), k, n) P) : am_go sc d 91 (90, [some (.ref x0), some (.ref x1), some (.int x2), l3], [], (am_SH, I, J, Pf), k, n) P := by
  refine am_s_iload_n rfl dc91_7.1.1.1 ?_
  refine am_s_aload_n rfl dc91_7.1.1.2 ?_
  refine am_x_getI (x := I x1 9) dc91_7.1.2.1 rfl hx1 (Or.inl rfl) rfl ?_
  refine am_s_ic_ge dc91_7.1.2.2 rfl (fun c1 => ?_) (fun c1 => ?_)
  · refine am_s_iconst am_cc0 dc91_9.2.2.1 ?_
    refine am_s_istore_n (ls' := [some (.ref x0), some (.ref x1), some (.int 0), l3]) rfl rfl dc91_9.2.2.2 ?_
    exact q1 c1
  · refine am_s_aload_n rfl dc91_7.2.1.1 ?_
    refine am_s_getR (r := x0 + 1) dc91_7.2.1.2 rfl hx0 rfl (am_r7_0 hp hx0) ?_
    refine am_s_aload_n rfl dc91_7.2.2.1 ?_
    refine am_s_getR (r := x1 + 8) dc91_7.2.2.2 rfl hx1 rfl (am_r4_10 hp hx1) ?_
    refine am_s_iload_n rfl dc91_8.1.1.1 ?_
    refine am_x_iaload (x := I (x1 + 8) (Int32.toNatClampNeg x2)) dc91_8.1.1.2 (am_h4_10 hx1) (q2 c1) rfl rfl ?_
    refine am_s_dup2 rfl rfl dc91_8.1.2.1 ?_
    refine am_x_iaload (x := I (x0 + 1) (Int32.toNatClampNeg (I (x1 + 8) (Int32.toNatClampNeg x2)))) dc91_8.1.2.2 (am_h7_0 hx0) (q3 c1) rfl rfl ?_
    refine am_s_iconst am_cc1 dc91_8.2.1.1 ?_
    refine am_s_aload_n rfl dc91_8.2.1.2 ?_
    refine am_s_getR (r := x1 + 9) dc91_8.2.2.1 rfl hx1 rfl (am_r4_11 hp hx1) ?_
    refine am_s_iload_n rfl dc91_8.2.2.2 ?_
    refine am_x_iaload (x := I (x1 + 9) (Int32.toNatClampNeg x2)) dc91_9.1.1.1 (am_h4_11 hx1) (q4 c1) rfl rfl ?_
    refine am_s_ishl dc91_9.1.1.2 ?_
    refine am_s_ior dc91_9.1.2.1 ?_
    refine am_s_iastore dc91_9.1.2.2 (am_h7_0 hx0) (q5 c1) rfl ?_
    refine am_s_iinc (ls' := [some (.ref x0), some (.ref x1), some (.int (x2 + 1)), l3]) am_cc1 rfl rfl dc91_9.2.1.1 ?_
    refine am_s_goto rfl dc91_9.2.1.2 ?_
    exact q6 c1
theorem t91_128 {sc : Option (Nat × (Nat → Int32))} {d k n : Nat} {P : am_O → Prop} {I : am_I} {J : am_J} {Pf : am_R} (hp : am_PF Pf) {x0 : Nat} (hx0 : am_SH[x0]? = some (.inl 7)) {x1 : Nat} (hx1 : am_SH[x1]? = some (.inl 4)) {x2 : Int32} {l3 : Option Value} (q1 : ((I x1 16) ≤ x2) → am_go sc d 91 (166, [some (.ref x0), some (.ref x1), some (.int 0), l3], [], (am_SH, I, J, Pf), k, n) P) (q2 : (¬ ((I x1 16) ≤ x2)) → am_in x2 8 = true) (q3 : (¬ ((I x1 16) ≤ x2)) → am_in (I (x1 + 13) (Int32.toNatClampNeg x2)) 8 = true) (q4 : (¬ ((I x1 16) ≤ x2)) → am_in x2 8 = true) (q5 : (¬ ((I x1 16) ≤ x2)) → am_in (I (x1 + 13) (Int32.toNatClampNeg x2)) 8 = true) (q6 : (¬ ((I x1 16) ≤ x2)) → am_go sc d 91 (128, [some (.ref x0), some (.ref x1), some (.int (x2 + 1)), l3], [], (am_SH, am_u I (x0 + 2) (Int32.toNatClampNeg (I (x1 + 13) (Int32.toNatClampNeg x2))) ((I (x0 + 2) (Int32.toNatClampNeg (I (x1 + 13) (Int32.toNatClampNeg x2)))) ||| (1 <<< ((I (x1 + 14) (Int32.toNatClampNeg x2)) &&& 31))), J, Pf), k, n) P) : am_go sc d 91 (128, [some (.ref x0), some (.ref x1), some (.int x2), l3], [], (am_SH, I, J, Pf), k, n) P := by
  refine am_s_iload_n rfl dc91_10.1.1.1 ?_
  refine am_s_aload_n rfl dc91_10.1.1.2 ?_
  refine am_x_getI (x := I x1 16) dc91_10.1.2.1 rfl hx1 (Or.inl rfl) rfl ?_
  refine am_s_ic_ge dc91_10.1.2.2 rfl (fun c1 => ?_) (fun c1 => ?_)
  · refine am_s_iconst am_cc0 dc91_12.2.2.1 ?_
    refine am_s_istore_n (ls' := [some (.ref x0), some (.ref x1), some (.int 0), l3]) rfl rfl dc91_12.2.2.2 ?_
    exact q1 c1
  · refine am_s_aload_n rfl dc91_10.2.1.1 ?_
    refine am_s_getR (r := x0 + 2) dc91_10.2.1.2 rfl hx0 rfl (am_r7_1 hp hx0) ?_
    refine am_s_aload_n rfl dc91_10.2.2.1 ?_
    refine am_s_getR (r := x1 + 13) dc91_10.2.2.2 rfl hx1 rfl (am_r4_17 hp hx1) ?_
    refine am_s_iload_n rfl dc91_11.1.1.1 ?_
    refine am_x_iaload (x := I (x1 + 13) (Int32.toNatClampNeg x2)) dc91_11.1.1.2 (am_h4_17 hx1) (q2 c1) rfl rfl ?_
    refine am_s_dup2 rfl rfl dc91_11.1.2.1 ?_
    refine am_x_iaload (x := I (x0 + 2) (Int32.toNatClampNeg (I (x1 + 13) (Int32.toNatClampNeg x2)))) dc91_11.1.2.2 (am_h7_1 hx0) (q3 c1) rfl rfl ?_
    refine am_s_iconst am_cc1 dc91_11.2.1.1 ?_
    refine am_s_aload_n rfl dc91_11.2.1.2 ?_
    refine am_s_getR (r := x1 + 14) dc91_11.2.2.1 rfl hx1 rfl (am_r4_18 hp hx1) ?_
    refine am_s_iload_n rfl dc91_11.2.2.2 ?_
    refine am_x_iaload (x := I (x1 + 14) (Int32.toNatClampNeg x2)) dc91_12.1.1.1 (am_h4_18 hx1) (q4 c1) rfl rfl ?_
    refine am_s_ishl dc91_12.1.1.2 ?_
    refine am_s_ior dc91_12.1.2.1 ?_
    refine am_s_iastore dc91_12.1.2.2 (am_h7_1 hx0) (q5 c1) rfl ?_
    refine am_s_iinc (ls' := [some (.ref x0), some (.ref x1), some (.int (x2 + 1)), l3]) am_cc1 rfl rfl dc91_12.2.1.1 ?_
    refine am_s_goto rfl dc91_12.2.1.2 ?_
    exact q6 c1
theorem t91_166 {sc : Option (Nat × (Nat → Int32))} {d k n : Nat} {P : am_O → Prop} {I : am_I} {J : am_J} {Pf : am_R} (hp : am_PF Pf) {x0 : Nat} (hx0 : am_SH[x0]? = some (.inl 7)) {l1 : Option Value} {x2 : Int32} {l3 : Option Value} (hl1 : am_k1 l1 = true) (q1 : (8 ≤ x2) → am_go sc d 91 (199, [some (.ref x0), l1, some (.int 0), l3], [], (am_SH, I, J, Pf), k, n) P) (q2 : (¬ (8 ≤ x2)) → am_in x2 8 = true) (q3 : (¬ (8 ≤ x2)) → am_in x2 8 = true) (q4 : (¬ (8 ≤ x2)) → am_in x2 8 = true) (q5 : (¬ (8 ≤ x2)) → am_go sc d 91 (166, [some (.ref x0), l1, some (.int (x2 + 1)), l3], [], (am_SH, am_u I (x0 + 3) (Int32.toNatClampNeg x2) ((I (x0 + 1) (Int32.toNatClampNeg x2)) ||| (I (x0 + 2) (Int32.toNatClampNeg x2))), J, Pf), k, n) P) : am_go sc d 91 (166, [some (.ref x0), l1, some (.int x2), l3], [], (am_SH, I, J, Pf), k, n) P := by
  refine am_s_iload_n rfl dc91_13.1.1.1 ?_
  refine am_s_bipush am_cb8 dc91_13.1.1.2 ?_
  refine am_s_ic_ge dc91_13.1.2.1 rfl (fun c1 => ?_) (fun c1 => ?_)
  · refine am_s_iconst am_cc0 dc91_15.1.2.1 ?_
    refine am_s_istore_n (ls' := [some (.ref x0), l1, some (.int 0), l3]) rfl (am_set1_k (am_kill_x (j := 1) rfl hl1) rfl) dc91_15.1.2.2 ?_
    exact q1 c1
  · refine am_s_aload_n rfl dc91_13.1.2.2 ?_
    refine am_s_getR (r := x0 + 3) dc91_13.2.1.1 rfl hx0 rfl (am_r7_2 hp hx0) ?_
    refine am_s_iload_n rfl dc91_13.2.1.2 ?_
    refine am_s_aload_n rfl dc91_13.2.2.1 ?_
    refine am_s_getR (r := x0 + 1) dc91_13.2.2.2 rfl hx0 rfl (am_r7_0 hp hx0) ?_
    refine am_s_iload_n rfl dc91_14.1.1.1 ?_
    refine am_x_iaload (x := I (x0 + 1) (Int32.toNatClampNeg x2)) dc91_14.1.1.2 (am_h7_0 hx0) (q2 c1) rfl rfl ?_
    refine am_s_aload_n rfl dc91_14.1.2.1 ?_
    refine am_s_getR (r := x0 + 2) dc91_14.1.2.2 rfl hx0 rfl (am_r7_1 hp hx0) ?_
    refine am_s_iload_n rfl dc91_14.2.1.1 ?_
    refine am_x_iaload (x := I (x0 + 2) (Int32.toNatClampNeg x2)) dc91_14.2.1.2 (am_h7_1 hx0) (q3 c1) rfl rfl ?_
    refine am_s_ior dc91_14.2.2.1 ?_
    refine am_s_iastore dc91_14.2.2.2 (am_h7_2 hx0) (q4 c1) rfl ?_
    refine am_s_iinc (ls' := [some (.ref x0), l1, some (.int (x2 + 1)), l3]) am_cc1 rfl (am_set1_k (am_kill_x (j := 1) rfl hl1) rfl) dc91_15.1.1.1 ?_
    refine am_s_goto rfl dc91_15.1.1.2 ?_
    exact q5 c1
theorem t91_199 {sc : Option (Nat × (Nat → Int32))} {d k n : Nat} {P : am_O → Prop} {I : am_I} {J : am_J} {Pf : am_R} (hp : am_PF Pf) {x0 : Nat} (hx0 : am_SH[x0]? = some (.inl 7)) {l1 : Option Value} {x2 : Int32} {l3 : Option Value} (q1 : (8 ≤ x2) → P (.inl none, (am_SH, I, J, Pf), k, n)) (q2 : (¬ (8 ≤ x2)) → am_go sc d 91 (207, [some (.ref x0), l1, some (.int x2), some (.int 0)], [], (am_SH, I, J, Pf), k, n) P) : am_go sc d 91 (199, [some (.ref x0), l1, some (.int x2), l3], [], (am_SH, I, J, Pf), k, n) P := by
  refine am_s_iload_n rfl dc91_15.2.1.1 ?_
  refine am_s_bipush am_cb8 dc91_15.2.1.2 ?_
  refine am_s_ic_ge dc91_15.2.2.1 rfl (fun c1 => ?_) (fun c1 => ?_)
  · exact am_s_return dc91_19.2.2.2 rfl (q1 c1)
  · refine am_s_iconst am_cc0 dc91_15.2.2.2 ?_
    refine am_s_istore_n (ls' := [some (.ref x0), l1, some (.int x2), some (.int 0)]) rfl rfl dc91_16.1.1.1 ?_
    exact q2 c1
theorem t91_207 {sc : Option (Nat × (Nat → Int32))} {d k n : Nat} {P : am_O → Prop} {I : am_I} {J : am_J} {Pf : am_R} (hp : am_PF Pf) {x0 : Nat} (hx0 : am_SH[x0]? = some (.inl 7)) {l1 : Option Value} {x2 : Int32} {x3 : Int32} (hl1 : am_k1 l1 = true) (q1 : (8 ≤ x3) → am_go sc d 91 (199, [some (.ref x0), l1, some (.int (x2 + 1)), some (.int x3)], [], (am_SH, I, J, Pf), k, n) P) (q2 : (¬ (8 ≤ x3)) → am_in x3 8 = true) (q3 : (¬ (8 ≤ x3)) → (((UInt32.toInt32 (Int32.toUInt32 (I (x0 + 3) (Int32.toNatClampNeg x3)) >>> (Int32.toUInt32 x2 &&& Int32.toUInt32 31))) &&& 1) = 0) → am_go sc d 91 (207, [some (.ref x0), l1, some (.int x2), some (.int (x3 + 1))], [], (am_SH, I, J, Pf), k, n) P) (q4 : (¬ (8 ≤ x3)) → (¬ (((UInt32.toInt32 (Int32.toUInt32 (I (x0 + 3) (Int32.toNatClampNeg x3)) >>> (Int32.toUInt32 x2 &&& Int32.toUInt32 31))) &&& 1) = 0)) → am_in x3 8 = true) (q5 : (¬ (8 ≤ x3)) → (¬ (((UInt32.toInt32 (Int32.toUInt32 (I (x0 + 3) (Int32.toNatClampNeg x3)) >>> (Int32.toUInt32 x2 &&& Int32.toUInt32 31))) &&& 1) = 0)) → am_in x2 8 = true) (q6 : (¬ (8 ≤ x3)) → (¬ (((UInt32.toInt32 (Int32.toUInt32 (I (x0 + 3) (Int32.toNatClampNeg x3)) >>> (Int32.toUInt32 x2 &&& Int32.toUInt32 31))) &&& 1) = 0)) → am_in x3 8 = true) (q7 : (¬ (8 ≤ x3)) → (¬ (((UInt32.toInt32 (Int32.toUInt32 (I (x0 + 3) (Int32.toNatClampNeg x3)) >>> (Int32.toUInt32 x2 &&& Int32.toUInt32 31))) &&& 1) = 0)) → am_go sc d 91 (207, [some (.ref x0), l1, some (.int x2), some (.int (x3 + 1))], [], (am_SH, am_u I (x0 + 3) (Int32.toNatClampNeg x3) ((I (x0 + 3) (Int32.toNatClampNeg x3)) ||| (I (x0 + 3) (Int32.toNatClampNeg x2))), J, Pf), k, n) P) : am_go sc d 91 (207, [some (.ref x0), l1, some (.int x2), some (.int x3)], [], (am_SH, I, J, Pf), k, n) P := by
  refine am_s_iload_n rfl dc91_16.1.1.2 ?_
  refine am_s_bipush am_cb8 dc91_16.1.2.1 ?_
  refine am_s_ic_ge dc91_16.1.2.2 rfl (fun c1 => ?_) (fun c1 => ?_)
  · refine am_s_iinc (ls' := [some (.ref x0), l1, some (.int (x2 + 1)), some (.int x3)]) am_cc1 rfl (am_set1_k (am_kill_x (j := 1) rfl hl1) rfl) dc91_19.2.1 ?_
    refine am_s_goto rfl dc91_19.2.2.1 ?_
    exact q1 c1
  · refine am_s_aload_n rfl dc91_16.2.1.1 ?_
    refine am_s_getR (r := x0 + 3) dc91_16.2.1.2 rfl hx0 rfl (am_r7_2 hp hx0) ?_
    refine am_s_iload_n rfl dc91_16.2.2.1 ?_
    refine am_x_iaload (x := I (x0 + 3) (Int32.toNatClampNeg x3)) dc91_16.2.2.2 (am_h7_2 hx0) (q2 c1) rfl rfl ?_
    refine am_s_iload_n rfl dc91_17.1.1.1 ?_
    refine am_s_iushr dc91_17.1.1.2 ?_
    refine am_s_iconst am_cc1 dc91_17.1.2.1 ?_
    refine am_s_iand dc91_17.1.2.2 ?_
    refine am_s_if_eq dc91_17.2.1.1 rfl (fun c2 => ?_) (fun c2 => ?_)
    · refine am_s_iinc (ls' := [some (.ref x0), l1, some (.int x2), some (.int (x3 + 1))]) am_cc1 rfl rfl dc91_19.1.1 ?_
      refine am_s_goto rfl dc91_19.1.2 ?_
      exact q3 c1 c2
    · refine am_s_aload_n rfl dc91_17.2.1.2 ?_
      refine am_s_getR (r := x0 + 3) dc91_17.2.2.1 rfl hx0 rfl (am_r7_2 hp hx0) ?_
      refine am_s_iload_n rfl dc91_17.2.2.2 ?_
      refine am_s_dup2 rfl rfl dc91_18.1.1.1 ?_
      refine am_x_iaload (x := I (x0 + 3) (Int32.toNatClampNeg x3)) dc91_18.1.1.2 (am_h7_2 hx0) (q4 c1 c2) rfl rfl ?_
      refine am_s_aload_n rfl dc91_18.1.2.1 ?_
      refine am_s_getR (r := x0 + 3) dc91_18.1.2.2 rfl hx0 rfl (am_r7_2 hp hx0) ?_
      refine am_s_iload_n rfl dc91_18.2.1.1 ?_
      refine am_x_iaload (x := I (x0 + 3) (Int32.toNatClampNeg x2)) dc91_18.2.1.2 (am_h7_2 hx0) (q5 c1 c2) rfl rfl ?_
      refine am_s_ior dc91_18.2.2.1 ?_
      refine am_s_iastore dc91_18.2.2.2 (am_h7_2 hx0) (q6 c1 c2) rfl ?_
      refine am_s_iinc (ls' := [some (.ref x0), l1, some (.int x2), some (.int (x3 + 1))]) am_cc1 rfl rfl dc91_19.1.1 ?_
      refine am_s_goto rfl dc91_19.1.2 ?_
      exact q7 c1 c2
theorem t91_8 {sc : Option (Nat × (Nat → Int32))} {d k n : Nat} {P : am_O → Prop} {I : am_I} {J : am_J} {Pf : am_R} (hp : am_PF Pf) {x0 : Nat} (hx0 : am_SH[x0]? = some (.inl 7)) {x1 : Nat} (hx1 : am_SH[x1]? = some (.inl 4)) {l2 : Option Value} {l3 : Option Value} (q1 : am_mth d 341 [.ref (x0 + 2), .int 0] (am_SH, I, J, Pf) (am_af sc d 91 13 [some (.ref x0), some (.ref x1), l2, l3] [.int 0, .ref (x0 + 2)] [] (am_SH, I, J, Pf) k n false P)) : am_go sc d 91 (8, [some (.ref x0), some (.ref x1), l2, l3], [], (am_SH, I, J, Pf), k, n) P := by
  refine am_s_aload_n rfl dc91_0.2.1.1 ?_
  refine am_s_getR (r := x0 + 2) dc91_0.2.1.2 rfl hx0 rfl (am_r7_1 hp hx0) ?_
  refine am_s_iconst am_cc0 dc91_0.2.2.1 ?_
  exact am_s_static dc91_0.2.2.2 rfl rfl rfl (q1)
theorem t91_16 {sc : Option (Nat × (Nat → Int32))} {d k n : Nat} {P : am_O → Prop} {I : am_I} {J : am_J} {Pf : am_R} (hp : am_PF Pf) {x0 : Nat} (hx0 : am_SH[x0]? = some (.inl 7)) {x1 : Nat} (hx1 : am_SH[x1]? = some (.inl 4)) {l2 : Option Value} {l3 : Option Value} (q1 : am_go sc d 91 (18, [some (.ref x0), some (.ref x1), some (.int 0), l3], [], (am_SH, I, J, Pf), k, n) P) : am_go sc d 91 (16, [some (.ref x0), some (.ref x1), l2, l3], [], (am_SH, I, J, Pf), k, n) P := by
  refine am_s_iconst am_cc0 dc91_1.1.1.1 ?_
  refine am_s_istore_n (ls' := [some (.ref x0), some (.ref x1), some (.int 0), l3]) rfl rfl dc91_1.1.1.2 ?_
  exact q1
-- findRest (LPrunedParses$Rules;)V
theorem dc92_0 : (((decode (am_by 92) 0 = .ok (.aload_n 0, 1)) ∧ (decode (am_by 92) 1 = .ok (.invokevirtual 80, 3))) ∧ ((decode (am_by 92) 4 = .ok (.aload_n 0, 1)) ∧ (decode (am_by 92) 5 = .ok (.iconst 0, 1)))) ∧ (((decode (am_by 92) 6 = .ok (.putfield 83, 3)) ∧ (decode (am_by 92) 9 = .ok (.iconst 0, 1))) ∧ ((decode (am_by 92) 10 = .ok (.istore_n 2, 1)) ∧ (decode (am_by 92) 11 = .ok (.iload_n 2, 1)))) := by decide +kernel
theorem dc92_1 : (((decode (am_by 92) 12 = .ok (.bipush 8, 2)) ∧ (decode (am_by 92) 14 = .ok (.if_icmp .ge 14, 3))) ∧ ((decode (am_by 92) 17 = .ok (.aload_n 0, 1)) ∧ (decode (am_by 92) 18 = .ok (.aload_n 1, 1)))) ∧ (((decode (am_by 92) 19 = .ok (.invokevirtual 86, 3)) ∧ (decode (am_by 92) 22 = .ok (.iinc 2 1, 3))) ∧ ((decode (am_by 92) 25 = .ok (.goto (-14), 3)) ∧ (decode (am_by 92) 28 = .ok (.iconst 0, 1)))) := by decide +kernel
theorem dc92_2 : (((decode (am_by 92) 29 = .ok (.istore_n 2, 1)) ∧ (decode (am_by 92) 30 = .ok (.iload_n 2, 1))) ∧ ((decode (am_by 92) 31 = .ok (.bipush 8, 2)) ∧ (decode (am_by 92) 33 = .ok (.if_icmp .ge 18, 3)))) ∧ (((decode (am_by 92) 36 = .ok (.aload_n 0, 1)) ∧ (decode (am_by 92) 37 = .ok (.getfield 26, 3))) ∧ ((decode (am_by 92) 40 = .ok (.iload_n 2, 1)) ∧ (decode (am_by 92) 41 = .ok (.aaload, 1)))) := by decide +kernel
theorem dc92_3 : (((decode (am_by 92) 42 = .ok (.invokevirtual 90, 3)) ∧ (decode (am_by 92) 45 = .ok (.iinc 2 1, 3))) ∧ ((decode (am_by 92) 48 = .ok (.goto (-18), 3)) ∧ (decode (am_by 92) 51 = .ok (.iconst 0, 1)))) ∧ (((decode (am_by 92) 52 = .ok (.istore_n 2, 1)) ∧ (decode (am_by 92) 53 = .ok (.iload_n 2, 1))) ∧ ((decode (am_by 92) 54 = .ok (.bipush 8, 2)) ∧ (decode (am_by 92) 56 = .ok (.if_icmp .ge 14, 3)))) := by decide +kernel
theorem dc92_4 : (((decode (am_by 92) 59 = .ok (.aload_n 0, 1)) ∧ (decode (am_by 92) 60 = .ok (.aload_n 1, 1))) ∧ ((decode (am_by 92) 61 = .ok (.invokevirtual 93, 3)) ∧ (decode (am_by 92) 64 = .ok (.iinc 2 1, 3)))) ∧ (((decode (am_by 92) 67 = .ok (.goto (-14), 3)) ∧ (decode (am_by 92) 70 = .ok (.aload_n 0, 1))) ∧ ((decode (am_by 92) 71 = .ok (.aload_n 1, 1)) ∧ (decode (am_by 92) 72 = .ok (.invokevirtual 96, 3)))) := by decide +kernel
theorem dc92_5 : (((decode (am_by 92) 75 = .ok (.bipush 32, 2)) ∧ (decode (am_by 92) 77 = .ok (.istore_n 2, 1))) ∧ ((decode (am_by 92) 78 = .ok (.iload_n 2, 1)) ∧ (decode (am_by 92) 79 = .ok (.bipush 126, 2)))) ∧ (((decode (am_by 92) 81 = .ok (.if_icmp .gt 20, 3)) ∧ (decode (am_by 92) 84 = .ok (.aload_n 0, 1))) ∧ ((decode (am_by 92) 85 = .ok (.getfield 35, 3)) ∧ (decode (am_by 92) 88 = .ok (.iload_n 2, 1)))) := by decide +kernel
theorem dc92_6 : ((decode (am_by 92) 89 = .ok (.aload_n 1, 1)) ∧ ((decode (am_by 92) 90 = .ok (.iload_n 2, 1)) ∧ (decode (am_by 92) 91 = .ok (.invokevirtual 99, 3)))) ∧ (((decode (am_by 92) 94 = .ok (.iastore, 1)) ∧ (decode (am_by 92) 95 = .ok (.iinc 2 1, 3))) ∧ ((decode (am_by 92) 98 = .ok (.goto (-20), 3)) ∧ (decode (am_by 92) 101 = .ok (.return_, 1)))) := by decide +kernel
theorem t92_0 {sc : Option (Nat × (Nat → Int32))} {d k n : Nat} {P : am_O → Prop} {I : am_I} {J : am_J} {Pf : am_R} (hp : am_PF Pf) {x0 : Nat} (hx0 : am_SH[x0]? = some (.inl 7)) {x1 : Nat} (hx1 : am_SH[x1]? = some (.inl 4)) {l2 : Option Value} (q1 : am_mth d 93 [.ref x0] (am_SH, I, J, Pf) (am_af sc d 92 1 [some (.ref x0), some (.ref x1), l2] [.ref x0] [] (am_SH, I, J, Pf) k n true P)) : am_go sc d 92 (0, [some (.ref x0), some (.ref x1), l2], [], (am_SH, I, J, Pf), k, n) P := by
  refine am_s_aload_n rfl dc92_0.1.1.1 ?_
  exact am_s_virtual true dc92_0.1.1.2 rfl (by decide) rfl hx0 rfl (q1)
theorem t92_11 {sc : Option (Nat × (Nat → Int32))} {d k n : Nat} {P : am_O → Prop} {I : am_I} {J : am_J} {Pf : am_R} (hp : am_PF Pf) {x0 : Nat} (hx0 : am_SH[x0]? = some (.inl 7)) {x1 : Nat} (hx1 : am_SH[x1]? = some (.inl 4)) {x2 : Int32} (q1 : (8 ≤ x2) → am_go sc d 92 (30, [some (.ref x0), some (.ref x1), some (.int 0)], [], (am_SH, I, J, Pf), k, n) P) (q2 : (¬ (8 ≤ x2)) → am_mth d 94 [.ref x0, .ref x1] (am_SH, I, J, Pf) (am_af sc d 92 19 [some (.ref x0), some (.ref x1), some (.int x2)] [.ref x1, .ref x0] [] (am_SH, I, J, Pf) k n true P)) : am_go sc d 92 (11, [some (.ref x0), some (.ref x1), some (.int x2)], [], (am_SH, I, J, Pf), k, n) P := by
  refine am_s_iload_n rfl dc92_0.2.2.2 ?_
  refine am_s_bipush am_cb8 dc92_1.1.1.1 ?_
  refine am_s_ic_ge dc92_1.1.1.2 rfl (fun c1 => ?_) (fun c1 => ?_)
  · refine am_s_iconst am_cc0 dc92_1.2.2.2 ?_
    refine am_s_istore_n (ls' := [some (.ref x0), some (.ref x1), some (.int 0)]) rfl rfl dc92_2.1.1.1 ?_
    exact q1 c1
  · refine am_s_aload_n rfl dc92_1.1.2.1 ?_
    refine am_s_aload_n rfl dc92_1.1.2.2 ?_
    exact am_s_virtual true dc92_1.2.1.1 rfl (by decide) rfl hx0 rfl (q2 c1)
theorem t92_30 {sc : Option (Nat × (Nat → Int32))} {d k n : Nat} {P : am_O → Prop} {I : am_I} {J : am_J} {Pf : am_R} (hp : am_PF Pf) {x0 : Nat} (hx0 : am_SH[x0]? = some (.inl 7)) {x1 : Nat} (hx1 : am_SH[x1]? = some (.inl 4)) {x2 : Int32} {r41 : Nat} (q1 : (8 ≤ x2) → am_go sc d 92 (53, [some (.ref x0), some (.ref x1), some (.int 0)], [], (am_SH, I, J, Pf), k, n) P) (q2 : (¬ (8 ≤ x2)) → am_in x2 8 = true) (q3 : (¬ (8 ≤ x2)) → Pf (x0 + 5) (Int32.toNatClampNeg x2) = some r41) (q4 : (¬ (8 ≤ x2)) → am_SH[r41]? = some (.inl 6)) (q5 : (¬ (8 ≤ x2)) → am_mth d 75 [.ref r41] (am_SH, I, J, Pf) (am_af sc d 92 42 [some (.ref x0), some (.ref x1), some (.int x2)] [.ref r41] [] (am_SH, I, J, Pf) k n false P)) : am_go sc d 92 (30, [some (.ref x0), some (.ref x1), some (.int x2)], [], (am_SH, I, J, Pf), k, n) P := by
  refine am_s_iload_n rfl dc92_2.1.1.2 ?_
  refine am_s_bipush am_cb8 dc92_2.1.2.1 ?_
  refine am_s_ic_ge dc92_2.1.2.2 rfl (fun c1 => ?_) (fun c1 => ?_)
  · refine am_s_iconst am_cc0 dc92_3.1.2.2 ?_
    refine am_s_istore_n (ls' := [some (.ref x0), some (.ref x1), some (.int 0)]) rfl rfl dc92_3.2.1.1 ?_
    exact q1 c1
  · refine am_s_aload_n rfl dc92_2.2.1.1 ?_
    refine am_s_getR (r := x0 + 5) dc92_2.2.1.2 rfl hx0 rfl (am_r7_6 hp hx0) ?_
    refine am_s_iload_n rfl dc92_2.2.2.1 ?_
    refine am_s_aaload (r := r41) dc92_2.2.2.2 (am_h7_6 hx0) rfl (q2 c1) (q3 c1) ?_
    exact am_s_virtual false dc92_3.1.1.1 rfl (by decide) rfl (q4 c1) rfl (q5 c1)
theorem t92_53 {sc : Option (Nat × (Nat → Int32))} {d k n : Nat} {P : am_O → Prop} {I : am_I} {J : am_J} {Pf : am_R} (hp : am_PF Pf) {x0 : Nat} (hx0 : am_SH[x0]? = some (.inl 7)) {x1 : Nat} (hx1 : am_SH[x1]? = some (.inl 4)) {x2 : Int32} (q1 : (8 ≤ x2) → am_mth d 97 [.ref x0, .ref x1] (am_SH, I, J, Pf) (am_af sc d 92 72 [some (.ref x0), some (.ref x1), some (.int x2)] [.ref x1, .ref x0] [] (am_SH, I, J, Pf) k n true P)) (q2 : (¬ (8 ≤ x2)) → am_mth d 96 [.ref x0, .ref x1] (am_SH, I, J, Pf) (am_af sc d 92 61 [some (.ref x0), some (.ref x1), some (.int x2)] [.ref x1, .ref x0] [] (am_SH, I, J, Pf) k n true P)) : am_go sc d 92 (53, [some (.ref x0), some (.ref x1), some (.int x2)], [], (am_SH, I, J, Pf), k, n) P := by
  refine am_s_iload_n rfl dc92_3.2.1.2 ?_
  refine am_s_bipush am_cb8 dc92_3.2.2.1 ?_
  refine am_s_ic_ge dc92_3.2.2.2 rfl (fun c1 => ?_) (fun c1 => ?_)
  · refine am_s_aload_n rfl dc92_4.2.1.2 ?_
    refine am_s_aload_n rfl dc92_4.2.2.1 ?_
    exact am_s_virtual true dc92_4.2.2.2 rfl (by decide) rfl hx0 rfl (q1 c1)
  · refine am_s_aload_n rfl dc92_4.1.1.1 ?_
    refine am_s_aload_n rfl dc92_4.1.1.2 ?_
    exact am_s_virtual true dc92_4.1.2.1 rfl (by decide) rfl hx0 rfl (q2 c1)
theorem t92_78 {sc : Option (Nat × (Nat → Int32))} {d k n : Nat} {P : am_O → Prop} {I : am_I} {J : am_J} {Pf : am_R} (hp : am_PF Pf) {x0 : Nat} (hx0 : am_SH[x0]? = some (.inl 7)) {x1 : Nat} (hx1 : am_SH[x1]? = some (.inl 4)) {x2 : Int32} (q1 : (126 < x2) → P (.inl none, (am_SH, I, J, Pf), k, n)) (q2 : (¬ (126 < x2)) → am_mth d 69 [.ref x1, .int x2] (am_SH, I, J, Pf) (am_af sc d 92 91 [some (.ref x0), some (.ref x1), some (.int x2)] [.int x2, .ref x1, .int x2, .ref (x0 + 7)] [.int x2, .ref (x0 + 7)] (am_SH, I, J, Pf) k n false P)) : am_go sc d 92 (78, [some (.ref x0), some (.ref x1), some (.int x2)], [], (am_SH, I, J, Pf), k, n) P := by
  refine am_s_iload_n rfl dc92_5.1.2.1 ?_
  refine am_s_bipush am_cb126 dc92_5.1.2.2 ?_
  refine am_s_ic_gt dc92_5.2.1.1 rfl (fun c1 => ?_) (fun c1 => ?_)
  · exact am_s_return dc92_6.2.2.2 rfl (q1 c1)
  · refine am_s_aload_n rfl dc92_5.2.1.2 ?_
    refine am_s_getR (r := x0 + 7) dc92_5.2.2.1 rfl hx0 rfl (am_r7_8 hp hx0) ?_
    refine am_s_iload_n rfl dc92_5.2.2.2 ?_
    refine am_s_aload_n rfl dc92_6.1.1 ?_
    refine am_s_iload_n rfl dc92_6.1.2.1 ?_
    exact am_s_virtual false dc92_6.1.2.2 rfl (by decide) rfl hx1 rfl (q2 c1)
theorem t92_4 {sc : Option (Nat × (Nat → Int32))} {d k n : Nat} {P : am_O → Prop} {I : am_I} {J : am_J} {Pf : am_R} (hp : am_PF Pf) {x0 : Nat} (hx0 : am_SH[x0]? = some (.inl 7)) {x1 : Nat} (hx1 : am_SH[x1]? = some (.inl 4)) {l2 : Option Value} (q1 : am_go sc d 92 (11, [some (.ref x0), some (.ref x1), some (.int 0)], [], (am_SH, am_u I x0 5 0, J, Pf), k, n) P) : am_go sc d 92 (4, [some (.ref x0), some (.ref x1), l2], [], (am_SH, I, J, Pf), k, n) P := by
  refine am_s_aload_n rfl dc92_0.1.2.1 ?_
  refine am_s_iconst am_cc0 dc92_0.1.2.2 ?_
  refine am_s_putI dc92_0.2.1.1 rfl hx0 rfl rfl ?_
  refine am_s_iconst am_cc0 dc92_0.2.1.2 ?_
  refine am_s_istore_n (ls' := [some (.ref x0), some (.ref x1), some (.int 0)]) rfl rfl dc92_0.2.2.1 ?_
  exact q1
theorem t92_22 {sc : Option (Nat × (Nat → Int32))} {d k n : Nat} {P : am_O → Prop} {I : am_I} {J : am_J} {Pf : am_R} (hp : am_PF Pf) {x0 : Nat} (hx0 : am_SH[x0]? = some (.inl 7)) {x1 : Nat} (hx1 : am_SH[x1]? = some (.inl 4)) {x2 : Int32} (q1 : am_go sc d 92 (11, [some (.ref x0), some (.ref x1), some (.int (x2 + 1))], [], (am_SH, I, J, Pf), k, n) P) : am_go sc d 92 (22, [some (.ref x0), some (.ref x1), some (.int x2)], [], (am_SH, I, J, Pf), k, n) P := by
  refine am_s_iinc (ls' := [some (.ref x0), some (.ref x1), some (.int (x2 + 1))]) am_cc1 rfl rfl dc92_1.2.1.2 ?_
  refine am_s_goto rfl dc92_1.2.2.1 ?_
  exact q1
theorem t92_45 {sc : Option (Nat × (Nat → Int32))} {d k n : Nat} {P : am_O → Prop} {I : am_I} {J : am_J} {Pf : am_R} (hp : am_PF Pf) {x0 : Nat} (hx0 : am_SH[x0]? = some (.inl 7)) {x1 : Nat} (hx1 : am_SH[x1]? = some (.inl 4)) {x2 : Int32} (q1 : am_go sc d 92 (30, [some (.ref x0), some (.ref x1), some (.int (x2 + 1))], [], (am_SH, I, J, Pf), k, n) P) : am_go sc d 92 (45, [some (.ref x0), some (.ref x1), some (.int x2)], [], (am_SH, I, J, Pf), k, n) P := by
  refine am_s_iinc (ls' := [some (.ref x0), some (.ref x1), some (.int (x2 + 1))]) am_cc1 rfl rfl dc92_3.1.1.2 ?_
  refine am_s_goto rfl dc92_3.1.2.1 ?_
  exact q1
theorem t92_64 {sc : Option (Nat × (Nat → Int32))} {d k n : Nat} {P : am_O → Prop} {I : am_I} {J : am_J} {Pf : am_R} (hp : am_PF Pf) {x0 : Nat} (hx0 : am_SH[x0]? = some (.inl 7)) {x1 : Nat} (hx1 : am_SH[x1]? = some (.inl 4)) {x2 : Int32} (q1 : am_go sc d 92 (53, [some (.ref x0), some (.ref x1), some (.int (x2 + 1))], [], (am_SH, I, J, Pf), k, n) P) : am_go sc d 92 (64, [some (.ref x0), some (.ref x1), some (.int x2)], [], (am_SH, I, J, Pf), k, n) P := by
  refine am_s_iinc (ls' := [some (.ref x0), some (.ref x1), some (.int (x2 + 1))]) am_cc1 rfl rfl dc92_4.1.2.2 ?_
  refine am_s_goto rfl dc92_4.2.1.1 ?_
  exact q1
theorem t92_75 {sc : Option (Nat × (Nat → Int32))} {d k n : Nat} {P : am_O → Prop} {I : am_I} {J : am_J} {Pf : am_R} (hp : am_PF Pf) {x0 : Nat} (hx0 : am_SH[x0]? = some (.inl 7)) {x1 : Nat} (hx1 : am_SH[x1]? = some (.inl 4)) {l2 : Option Value} (q1 : am_go sc d 92 (78, [some (.ref x0), some (.ref x1), some (.int 32)], [], (am_SH, I, J, Pf), k, n) P) : am_go sc d 92 (75, [some (.ref x0), some (.ref x1), l2], [], (am_SH, I, J, Pf), k, n) P := by
  refine am_s_bipush am_cb32 dc92_5.1.1.1 ?_
  refine am_s_istore_n (ls' := [some (.ref x0), some (.ref x1), some (.int 32)]) rfl rfl dc92_5.1.1.2 ?_
  exact q1
theorem t92_94 {sc : Option (Nat × (Nat → Int32))} {d k n : Nat} {P : am_O → Prop} {I : am_I} {J : am_J} {Pf : am_R} (hp : am_PF Pf) {x0 : Nat} (hx0 : am_SH[x0]? = some (.inl 7)) {x1 : Nat} (hx1 : am_SH[x1]? = some (.inl 4)) {x2 : Int32} {s0 : Nat} (hs0 : am_SH[s0]? = some (.inr (0, 127))) {s1 : Int32} {s2 : Int32} (q1 : am_in s1 127 = true) (q2 : am_go sc d 92 (78, [some (.ref x0), some (.ref x1), some (.int (x2 + 1))], [], (am_SH, am_u I s0 (Int32.toNatClampNeg s1) s2, J, Pf), k, n) P) : am_go sc d 92 (94, [some (.ref x0), some (.ref x1), some (.int x2)], [.int s2, .int s1, .ref s0], (am_SH, I, J, Pf), k, n) P := by
  refine am_s_iastore dc92_6.2.1.1 hs0 (q1) rfl ?_
  refine am_s_iinc (ls' := [some (.ref x0), some (.ref x1), some (.int (x2 + 1))]) am_cc1 rfl rfl dc92_6.2.1.2 ?_
  refine am_s_goto rfl dc92_6.2.2.1 ?_
  exact q2
-- findLayers ()V
theorem dc93_0 : (((decode (am_by 93) 0 = .ok (.aload_n 0, 1)) ∧ (decode (am_by 93) 1 = .ok (.getfield 21, 3))) ∧ ((decode (am_by 93) 4 = .ok (.iconst 0, 1)) ∧ (decode (am_by 93) 5 = .ok (.invokestatic 38, 3)))) ∧ (((decode (am_by 93) 8 = .ok (.iconst 0, 1)) ∧ (decode (am_by 93) 9 = .ok (.istore_n 1, 1))) ∧ ((decode (am_by 93) 10 = .ok (.iload_n 1, 1)) ∧ (decode (am_by 93) 11 = .ok (.bipush 8, 2)))) := by decide +kernel
theorem dc93_1 : (((decode (am_by 93) 13 = .ok (.if_icmp .ge 107, 3)) ∧ (decode (am_by 93) 16 = .ok (.iconst 0, 1))) ∧ ((decode (am_by 93) 17 = .ok (.istore_n 2, 1)) ∧ (decode (am_by 93) 18 = .ok (.iload_n 2, 1)))) ∧ (((decode (am_by 93) 19 = .ok (.bipush 8, 2)) ∧ (decode (am_by 93) 21 = .ok (.if_icmp .ge 93, 3))) ∧ ((decode (am_by 93) 24 = .ok (.iconst 0, 1)) ∧ (decode (am_by 93) 25 = .ok (.istore_n 3, 1)))) := by decide +kernel
theorem dc93_2 : (((decode (am_by 93) 26 = .ok (.iload_n 3, 1)) ∧ (decode (am_by 93) 27 = .ok (.bipush 8, 2))) ∧ ((decode (am_by 93) 29 = .ok (.if_icmp .ge 79, 3)) ∧ (decode (am_by 93) 32 = .ok (.aload_n 0, 1)))) ∧ (((decode (am_by 93) 33 = .ok (.getfield 9, 3)) ∧ (decode (am_by 93) 36 = .ok (.iload_n 2, 1))) ∧ ((decode (am_by 93) 37 = .ok (.iaload, 1)) ∧ (decode (am_by 93) 38 = .ok (.iload_n 3, 1)))) := by decide +kernel
theorem dc93_3 : (((decode (am_by 93) 39 = .ok (.iushr, 1)) ∧ (decode (am_by 93) 40 = .ok (.iconst 1, 1))) ∧ ((decode (am_by 93) 41 = .ok (.iand, 1)) ∧ (decode (am_by 93) 42 = .ok (.ifCond .eq 24, 3)))) ∧ (((decode (am_by 93) 45 = .ok (.aload_n 0, 1)) ∧ (decode (am_by 93) 46 = .ok (.getfield 21, 3))) ∧ ((decode (am_by 93) 49 = .ok (.iload_n 2, 1)) ∧ (decode (am_by 93) 50 = .ok (.aload_n 0, 1)))) := by decide +kernel
theorem dc93_4 : (((decode (am_by 93) 51 = .ok (.getfield 21, 3)) ∧ (decode (am_by 93) 54 = .ok (.iload_n 2, 1))) ∧ ((decode (am_by 93) 55 = .ok (.iaload, 1)) ∧ (decode (am_by 93) 56 = .ok (.aload_n 0, 1)))) ∧ (((decode (am_by 93) 57 = .ok (.getfield 21, 3)) ∧ (decode (am_by 93) 60 = .ok (.iload_n 3, 1))) ∧ ((decode (am_by 93) 61 = .ok (.iaload, 1)) ∧ (decode (am_by 93) 62 = .ok (.invokestatic 103, 3)))) := by decide +kernel
theorem dc93_5 : (((decode (am_by 93) 65 = .ok (.iastore, 1)) ∧ (decode (am_by 93) 66 = .ok (.aload_n 0, 1))) ∧ ((decode (am_by 93) 67 = .ok (.getfield 15, 3)) ∧ (decode (am_by 93) 70 = .ok (.iload_n 2, 1)))) ∧ (((decode (am_by 93) 71 = .ok (.iaload, 1)) ∧ (decode (am_by 93) 72 = .ok (.iload_n 3, 1))) ∧ ((decode (am_by 93) 73 = .ok (.iushr, 1)) ∧ (decode (am_by 93) 74 = .ok (.iconst 1, 1)))) := by decide +kernel
theorem dc93_6 : (((decode (am_by 93) 75 = .ok (.iand, 1)) ∧ (decode (am_by 93) 76 = .ok (.ifCond .eq 26, 3))) ∧ ((decode (am_by 93) 79 = .ok (.aload_n 0, 1)) ∧ (decode (am_by 93) 80 = .ok (.getfield 21, 3)))) ∧ (((decode (am_by 93) 83 = .ok (.iload_n 2, 1)) ∧ (decode (am_by 93) 84 = .ok (.aload_n 0, 1))) ∧ ((decode (am_by 93) 85 = .ok (.getfield 21, 3)) ∧ (decode (am_by 93) 88 = .ok (.iload_n 2, 1)))) := by decide +kernel
theorem dc93_7 : (((decode (am_by 93) 89 = .ok (.iaload, 1)) ∧ (decode (am_by 93) 90 = .ok (.aload_n 0, 1))) ∧ ((decode (am_by 93) 91 = .ok (.getfield 21, 3)) ∧ (decode (am_by 93) 94 = .ok (.iload_n 3, 1)))) ∧ (((decode (am_by 93) 95 = .ok (.iaload, 1)) ∧ (decode (am_by 93) 96 = .ok (.iconst 1, 1))) ∧ ((decode (am_by 93) 97 = .ok (.iadd, 1)) ∧ (decode (am_by 93) 98 = .ok (.invokestatic 103, 3)))) := by decide +kernel
theorem dc93_8 : (((decode (am_by 93) 101 = .ok (.iastore, 1)) ∧ (decode (am_by 93) 102 = .ok (.iinc 3 1, 3))) ∧ ((decode (am_by 93) 105 = .ok (.goto (-79), 3)) ∧ (decode (am_by 93) 108 = .ok (.iinc 2 1, 3)))) ∧ (((decode (am_by 93) 111 = .ok (.goto (-93), 3)) ∧ (decode (am_by 93) 114 = .ok (.iinc 1 1, 3))) ∧ ((decode (am_by 93) 117 = .ok (.goto (-107), 3)) ∧ (decode (am_by 93) 120 = .ok (.aload_n 0, 1)))) := by decide +kernel
theorem dc93_9 : (((decode (am_by 93) 121 = .ok (.iconst 0, 1)) ∧ (decode (am_by 93) 122 = .ok (.putfield 109, 3))) ∧ ((decode (am_by 93) 125 = .ok (.iconst 0, 1)) ∧ (decode (am_by 93) 126 = .ok (.istore_n 1, 1)))) ∧ (((decode (am_by 93) 127 = .ok (.iload_n 1, 1)) ∧ (decode (am_by 93) 128 = .ok (.bipush 8, 2))) ∧ ((decode (am_by 93) 130 = .ok (.if_icmp .ge 26, 3)) ∧ (decode (am_by 93) 133 = .ok (.aload_n 0, 1)))) := by decide +kernel
theorem dc93_10 : (((decode (am_by 93) 134 = .ok (.aload_n 0, 1)) ∧ (decode (am_by 93) 135 = .ok (.getfield 109, 3))) ∧ ((decode (am_by 93) 138 = .ok (.aload_n 0, 1)) ∧ (decode (am_by 93) 139 = .ok (.getfield 21, 3)))) ∧ (((decode (am_by 93) 142 = .ok (.iload_n 1, 1)) ∧ (decode (am_by 93) 143 = .ok (.iaload, 1))) ∧ ((decode (am_by 93) 144 = .ok (.invokestatic 103, 3)) ∧ (decode (am_by 93) 147 = .ok (.putfield 109, 3)))) := by decide +kernel
theorem dc93_11 : (decode (am_by 93) 150 = .ok (.iinc 1 1, 3)) ∧ ((decode (am_by 93) 153 = .ok (.goto (-26), 3)) ∧ (decode (am_by 93) 156 = .ok (.return_, 1))) := by decide +kernel
theorem t93_0 {sc : Option (Nat × (Nat → Int32))} {d k n : Nat} {P : am_O → Prop} {I : am_I} {J : am_J} {Pf : am_R} (hp : am_PF Pf) {x0 : Nat} (hx0 : am_SH[x0]? = some (.inl 7)) {l1 : Option Value} {l2 : Option Value} {l3 : Option Value} (q1 : am_mth d 341 [.ref (x0 + 4), .int 0] (am_SH, I, J, Pf) (am_af sc d 93 5 [some (.ref x0), l1, l2, l3] [.int 0, .ref (x0 + 4)] [] (am_SH, I, J, Pf) k n false P)) : am_go sc d 93 (0, [some (.ref x0), l1, l2, l3], [], (am_SH, I, J, Pf), k, n) P := by
  refine am_s_aload_n rfl dc93_0.1.1.1 ?_
  refine am_s_getR (r := x0 + 4) dc93_0.1.1.2 rfl hx0 rfl (am_r7_3 hp hx0) ?_
  refine am_s_iconst am_cc0 dc93_0.1.2.1 ?_
  exact am_s_static dc93_0.1.2.2 rfl rfl rfl (q1)
theorem t93_10 {sc : Option (Nat × (Nat → Int32))} {d k n : Nat} {P : am_O → Prop} {I : am_I} {J : am_J} {Pf : am_R} (hp : am_PF Pf) {x0 : Nat} (hx0 : am_SH[x0]? = some (.inl 7)) {x1 : Int32} {l2 : Option Value} {l3 : Option Value} (q1 : (8 ≤ x1) → am_go sc d 93 (127, [some (.ref x0), some (.int 0), l2, l3], [], (am_SH, am_u I x0 4 0, J, Pf), k, n) P) (q2 : (¬ (8 ≤ x1)) → am_go sc d 93 (18, [some (.ref x0), some (.int x1), some (.int 0), l3], [], (am_SH, I, J, Pf), k, n) P) : am_go sc d 93 (10, [some (.ref x0), some (.int x1), l2, l3], [], (am_SH, I, J, Pf), k, n) P := by
  refine am_s_iload_n rfl dc93_0.2.2.1 ?_
  refine am_s_bipush am_cb8 dc93_0.2.2.2 ?_
  refine am_s_ic_ge dc93_1.1.1.1 rfl (fun c1 => ?_) (fun c1 => ?_)
  · refine am_s_aload_n rfl dc93_8.2.2.2 ?_
    refine am_s_iconst am_cc0 dc93_9.1.1.1 ?_
    refine am_s_putI dc93_9.1.1.2 rfl hx0 rfl rfl ?_
    refine am_s_iconst am_cc0 dc93_9.1.2.1 ?_
    refine am_s_istore_n (ls' := [some (.ref x0), some (.int 0), l2, l3]) rfl rfl dc93_9.1.2.2 ?_
    exact q1 c1
  · refine am_s_iconst am_cc0 dc93_1.1.1.2 ?_
    refine am_s_istore_n (ls' := [some (.ref x0), some (.int x1), some (.int 0), l3]) rfl rfl dc93_1.1.2.1 ?_
    exact q2 c1
theorem t93_18 {sc : Option (Nat × (Nat → Int32))} {d k n : Nat} {P : am_O → Prop} {I : am_I} {J : am_J} {Pf : am_R} (hp : am_PF Pf) {x0 : Nat} (hx0 : am_SH[x0]? = some (.inl 7)) {x1 : Int32} {x2 : Int32} {l3 : Option Value} (q1 : (8 ≤ x2) → am_go sc d 93 (10, [some (.ref x0), some (.int (x1 + 1)), some (.int x2), l3], [], (am_SH, I, J, Pf), k, n) P) (q2 : (¬ (8 ≤ x2)) → am_go sc d 93 (26, [some (.ref x0), some (.int x1), some (.int x2), some (.int 0)], [], (am_SH, I, J, Pf), k, n) P) : am_go sc d 93 (18, [some (.ref x0), some (.int x1), some (.int x2), l3], [], (am_SH, I, J, Pf), k, n) P := by
  refine am_s_iload_n rfl dc93_1.1.2.2 ?_
  refine am_s_bipush am_cb8 dc93_1.2.1.1 ?_
  refine am_s_ic_ge dc93_1.2.1.2 rfl (fun c1 => ?_) (fun c1 => ?_)
  · refine am_s_iinc (ls' := [some (.ref x0), some (.int (x1 + 1)), some (.int x2), l3]) am_cc1 rfl rfl dc93_8.2.1.2 ?_
    refine am_s_goto rfl dc93_8.2.2.1 ?_
    exact q1 c1
  · refine am_s_iconst am_cc0 dc93_1.2.2.1 ?_
    refine am_s_istore_n (ls' := [some (.ref x0), some (.int x1), some (.int x2), some (.int 0)]) rfl rfl dc93_1.2.2.2 ?_
    exact q2 c1
theorem t93_26 {sc : Option (Nat × (Nat → Int32))} {d k n : Nat} {P : am_O → Prop} {I : am_I} {J : am_J} {Pf : am_R} (hp : am_PF Pf) {x0 : Nat} (hx0 : am_SH[x0]? = some (.inl 7)) {x1 : Int32} {x2 : Int32} {x3 : Int32} (q1 : (8 ≤ x3) → am_go sc d 93 (18, [some (.ref x0), some (.int x1), some (.int (x2 + 1)), some (.int x3)], [], (am_SH, I, J, Pf), k, n) P) (q2 : (¬ (8 ≤ x3)) → am_in x2 8 = true) (q3 : (¬ (8 ≤ x3)) → (((UInt32.toInt32 (Int32.toUInt32 (I (x0 + 1) (Int32.toNatClampNeg x2)) >>> (Int32.toUInt32 x3 &&& Int32.toUInt32 31))) &&& 1) = 0) → am_go sc d 93 (66, [some (.ref x0), some (.int x1), some (.int x2), some (.int x3)], [], (am_SH, I, J, Pf), k, n) P) (q4 : (¬ (8 ≤ x3)) → (¬ (((UInt32.toInt32 (Int32.toUInt32 (I (x0 + 1) (Int32.toNatClampNeg x2)) >>> (Int32.toUInt32 x3 &&& Int32.toUInt32 31))) &&& 1) = 0)) → am_in x2 8 = true) (q5 : (¬ (8 ≤ x3)) → (¬ (((UInt32.toInt32 (Int32.toUInt32 (I (x0 + 1) (Int32.toNatClampNeg x2)) >>> (Int32.toUInt32 x3 &&& Int32.toUInt32 31))) &&& 1) = 0)) → am_in x3 8 = true) (q6 : (¬ (8 ≤ x3)) → (¬ (((UInt32.toInt32 (Int32.toUInt32 (I (x0 + 1) (Int32.toNatClampNeg x2)) >>> (Int32.toUInt32 x3 &&& Int32.toUInt32 31))) &&& 1) = 0)) → am_mth d 329 [.int (I (x0 + 4) (Int32.toNatClampNeg x2)), .int (I (x0 + 4) (Int32.toNatClampNeg x3))] (am_SH, I, J, Pf) (am_af sc d 93 62 [some (.ref x0), some (.int x1), some (.int x2), some (.int x3)] [.int (I (x0 + 4) (Int32.toNatClampNeg x3)), .int (I (x0 + 4) (Int32.toNatClampNeg x2)), .int x2, .ref (x0 + 4)] [.int x2, .ref (x0 + 4)] (am_SH, I, J, Pf) k n false P)) : am_go sc d 93 (26, [some (.ref x0), some (.int x1), some (.int x2), some (.int x3)], [], (am_SH, I, J, Pf), k, n) P := by
  refine am_s_iload_n rfl dc93_2.1.1.1 ?_
  refine am_s_bipush am_cb8 dc93_2.1.1.2 ?_
  refine am_s_ic_ge dc93_2.1.2.1 rfl (fun c1 => ?_) (fun c1 => ?_)
  · refine am_s_iinc (ls' := [some (.ref x0), some (.int x1), some (.int (x2 + 1)), some (.int x3)]) am_cc1 rfl rfl dc93_8.1.2.2 ?_
    refine am_s_goto rfl dc93_8.2.1.1 ?_
    exact q1 c1
  · refine am_s_aload_n rfl dc93_2.1.2.2 ?_
    refine am_s_getR (r := x0 + 1) dc93_2.2.1.1 rfl hx0 rfl (am_r7_0 hp hx0) ?_
    refine am_s_iload_n rfl dc93_2.2.1.2 ?_
    refine am_x_iaload (x := I (x0 + 1) (Int32.toNatClampNeg x2)) dc93_2.2.2.1 (am_h7_0 hx0) (q2 c1) rfl rfl ?_
    refine am_s_iload_n rfl dc93_2.2.2.2 ?_
    refine am_s_iushr dc93_3.1.1.1 ?_
    refine am_s_iconst am_cc1 dc93_3.1.1.2 ?_
    refine am_s_iand dc93_3.1.2.1 ?_
    refine am_s_if_eq dc93_3.1.2.2 rfl (fun c2 => ?_) (fun c2 => ?_)
    · exact q3 c1 c2
    · refine am_s_aload_n rfl dc93_3.2.1.1 ?_
      refine am_s_getR (r := x0 + 4) dc93_3.2.1.2 rfl hx0 rfl (am_r7_3 hp hx0) ?_
      refine am_s_iload_n rfl dc93_3.2.2.1 ?_
      refine am_s_aload_n rfl dc93_3.2.2.2 ?_
      refine am_s_getR (r := x0 + 4) dc93_4.1.1.1 rfl hx0 rfl (am_r7_3 hp hx0) ?_
      refine am_s_iload_n rfl dc93_4.1.1.2 ?_
      refine am_x_iaload (x := I (x0 + 4) (Int32.toNatClampNeg x2)) dc93_4.1.2.1 (am_h7_3 hx0) (q4 c1 c2) rfl rfl ?_
      refine am_s_aload_n rfl dc93_4.1.2.2 ?_
      refine am_s_getR (r := x0 + 4) dc93_4.2.1.1 rfl hx0 rfl (am_r7_3 hp hx0) ?_
      refine am_s_iload_n rfl dc93_4.2.1.2 ?_
      refine am_x_iaload (x := I (x0 + 4) (Int32.toNatClampNeg x3)) dc93_4.2.2.1 (am_h7_3 hx0) (q5 c1 c2) rfl rfl ?_
      exact am_s_static dc93_4.2.2.2 rfl rfl rfl (q6 c1 c2)
theorem t93_66 {sc : Option (Nat × (Nat → Int32))} {d k n : Nat} {P : am_O → Prop} {I : am_I} {J : am_J} {Pf : am_R} (hp : am_PF Pf) {x0 : Nat} (hx0 : am_SH[x0]? = some (.inl 7)) {x1 : Int32} {x2 : Int32} {x3 : Int32} (q1 : am_in x2 8 = true) (q2 : (((UInt32.toInt32 (Int32.toUInt32 (I (x0 + 2) (Int32.toNatClampNeg x2)) >>> (Int32.toUInt32 x3 &&& Int32.toUInt32 31))) &&& 1) = 0) → am_go sc d 93 (26, [some (.ref x0), some (.int x1), some (.int x2), some (.int (x3 + 1))], [], (am_SH, I, J, Pf), k, n) P) (q3 : (¬ (((UInt32.toInt32 (Int32.toUInt32 (I (x0 + 2) (Int32.toNatClampNeg x2)) >>> (Int32.toUInt32 x3 &&& Int32.toUInt32 31))) &&& 1) = 0)) → am_in x2 8 = true) (q4 : (¬ (((UInt32.toInt32 (Int32.toUInt32 (I (x0 + 2) (Int32.toNatClampNeg x2)) >>> (Int32.toUInt32 x3 &&& Int32.toUInt32 31))) &&& 1) = 0)) → am_in x3 8 = true) (q5 : (¬ (((UInt32.toInt32 (Int32.toUInt32 (I (x0 + 2) (Int32.toNatClampNeg x2)) >>> (Int32.toUInt32 x3 &&& Int32.toUInt32 31))) &&& 1) = 0)) → am_mth d 329 [.int (I (x0 + 4) (Int32.toNatClampNeg x2)), .int ((I (x0 + 4) (Int32.toNatClampNeg x3)) + 1)] (am_SH, I, J, Pf) (am_af sc d 93 98 [some (.ref x0), some (.int x1), some (.int x2), some (.int x3)] [.int ((I (x0 + 4) (Int32.toNatClampNeg x3)) + 1), .int (I (x0 + 4) (Int32.toNatClampNeg x2)), .int x2, .ref (x0 + 4)] [.int x2, .ref (x0 + 4)] (am_SH, I, J, Pf) k n false P)) : am_go sc d 93 (66, [some (.ref x0), some (.int x1), some (.int x2), some (.int x3)], [], (am_SH, I, J, Pf), k, n) P := by
  refine am_s_aload_n rfl dc93_5.1.1.2 ?_
  refine am_s_getR (r := x0 + 2) dc93_5.1.2.1 rfl hx0 rfl (am_r7_1 hp hx0) ?_
  refine am_s_iload_n rfl dc93_5.1.2.2 ?_
  refine am_x_iaload (x := I (x0 + 2) (Int32.toNatClampNeg x2)) dc93_5.2.1.1 (am_h7_1 hx0) (q1) rfl rfl ?_
  refine am_s_iload_n rfl dc93_5.2.1.2 ?_
  refine am_s_iushr dc93_5.2.2.1 ?_
  refine am_s_iconst am_cc1 dc93_5.2.2.2 ?_
  refine am_s_iand dc93_6.1.1.1 ?_
  refine am_s_if_eq dc93_6.1.1.2 rfl (fun c1 => ?_) (fun c1 => ?_)
  · refine am_s_iinc (ls' := [some (.ref x0), some (.int x1), some (.int x2), some (.int (x3 + 1))]) am_cc1 rfl rfl dc93_8.1.1.2 ?_
    refine am_s_goto rfl dc93_8.1.2.1 ?_
    exact q2 c1
  · refine am_s_aload_n rfl dc93_6.1.2.1 ?_
    refine am_s_getR (r := x0 + 4) dc93_6.1.2.2 rfl hx0 rfl (am_r7_3 hp hx0) ?_
    refine am_s_iload_n rfl dc93_6.2.1.1 ?_
    refine am_s_aload_n rfl dc93_6.2.1.2 ?_
    refine am_s_getR (r := x0 + 4) dc93_6.2.2.1 rfl hx0 rfl (am_r7_3 hp hx0) ?_
    refine am_s_iload_n rfl dc93_6.2.2.2 ?_
    refine am_x_iaload (x := I (x0 + 4) (Int32.toNatClampNeg x2)) dc93_7.1.1.1 (am_h7_3 hx0) (q3 c1) rfl rfl ?_
    refine am_s_aload_n rfl dc93_7.1.1.2 ?_
    refine am_s_getR (r := x0 + 4) dc93_7.1.2.1 rfl hx0 rfl (am_r7_3 hp hx0) ?_
    refine am_s_iload_n rfl dc93_7.1.2.2 ?_
    refine am_x_iaload (x := I (x0 + 4) (Int32.toNatClampNeg x3)) dc93_7.2.1.1 (am_h7_3 hx0) (q4 c1) rfl rfl ?_
    refine am_s_iconst am_cc1 dc93_7.2.1.2 ?_
    refine am_s_iadd dc93_7.2.2.1 ?_
    exact am_s_static dc93_7.2.2.2 rfl rfl rfl (q5 c1)
theorem t93_127 {sc : Option (Nat × (Nat → Int32))} {d k n : Nat} {P : am_O → Prop} {I : am_I} {J : am_J} {Pf : am_R} (hp : am_PF Pf) {x0 : Nat} (hx0 : am_SH[x0]? = some (.inl 7)) {x1 : Int32} {l2 : Option Value} {l3 : Option Value} (q1 : (8 ≤ x1) → P (.inl none, (am_SH, I, J, Pf), k, n)) (q2 : (¬ (8 ≤ x1)) → am_in x1 8 = true) (q3 : (¬ (8 ≤ x1)) → am_mth d 329 [.int (I x0 4), .int (I (x0 + 4) (Int32.toNatClampNeg x1))] (am_SH, I, J, Pf) (am_af sc d 93 144 [some (.ref x0), some (.int x1), l2, l3] [.int (I (x0 + 4) (Int32.toNatClampNeg x1)), .int (I x0 4), .ref x0] [.ref x0] (am_SH, I, J, Pf) k n false P)) : am_go sc d 93 (127, [some (.ref x0), some (.int x1), l2, l3], [], (am_SH, I, J, Pf), k, n) P := by
  refine am_s_iload_n rfl dc93_9.2.1.1 ?_
  refine am_s_bipush am_cb8 dc93_9.2.1.2 ?_
  refine am_s_ic_ge dc93_9.2.2.1 rfl (fun c1 => ?_) (fun c1 => ?_)
  · exact am_s_return dc93_11.2.2 rfl (q1 c1)
  · refine am_s_aload_n rfl dc93_9.2.2.2 ?_
    refine am_s_aload_n rfl dc93_10.1.1.1 ?_
    refine am_x_getI (x := I x0 4) dc93_10.1.1.2 rfl hx0 (Or.inl rfl) rfl ?_
    refine am_s_aload_n rfl dc93_10.1.2.1 ?_
    refine am_s_getR (r := x0 + 4) dc93_10.1.2.2 rfl hx0 rfl (am_r7_3 hp hx0) ?_
    refine am_s_iload_n rfl dc93_10.2.1.1 ?_
    refine am_x_iaload (x := I (x0 + 4) (Int32.toNatClampNeg x1)) dc93_10.2.1.2 (am_h7_3 hx0) (q2 c1) rfl rfl ?_
    exact am_s_static dc93_10.2.2.1 rfl rfl rfl (q3 c1)
theorem t93_8 {sc : Option (Nat × (Nat → Int32))} {d k n : Nat} {P : am_O → Prop} {I : am_I} {J : am_J} {Pf : am_R} (hp : am_PF Pf) {x0 : Nat} (hx0 : am_SH[x0]? = some (.inl 7)) {l1 : Option Value} {l2 : Option Value} {l3 : Option Value} (q1 : am_go sc d 93 (10, [some (.ref x0), some (.int 0), l2, l3], [], (am_SH, I, J, Pf), k, n) P) : am_go sc d 93 (8, [some (.ref x0), l1, l2, l3], [], (am_SH, I, J, Pf), k, n) P := by
  refine am_s_iconst am_cc0 dc93_0.2.1.1 ?_
  refine am_s_istore_n (ls' := [some (.ref x0), some (.int 0), l2, l3]) rfl rfl dc93_0.2.1.2 ?_
  exact q1
theorem t93_65 {sc : Option (Nat × (Nat → Int32))} {d k n : Nat} {P : am_O → Prop} {I : am_I} {J : am_J} {Pf : am_R} (hp : am_PF Pf) {x0 : Nat} (hx0 : am_SH[x0]? = some (.inl 7)) {x1 : Int32} {x2 : Int32} {x3 : Int32} {s0 : Nat} (hs0 : am_SH[s0]? = some (.inr (0, 8))) {s1 : Int32} {s2 : Int32} (q1 : am_in s1 8 = true) (q2 : am_go sc d 93 (66, [some (.ref x0), some (.int x1), some (.int x2), some (.int x3)], [], (am_SH, am_u I s0 (Int32.toNatClampNeg s1) s2, J, Pf), k, n) P) : am_go sc d 93 (65, [some (.ref x0), some (.int x1), some (.int x2), some (.int x3)], [.int s2, .int s1, .ref s0], (am_SH, I, J, Pf), k, n) P := by
  refine am_s_iastore dc93_5.1.1.1 hs0 (q1) rfl ?_
  exact q2
theorem t93_101 {sc : Option (Nat × (Nat → Int32))} {d k n : Nat} {P : am_O → Prop} {I : am_I} {J : am_J} {Pf : am_R} (hp : am_PF Pf) {x0 : Nat} (hx0 : am_SH[x0]? = some (.inl 7)) {x1 : Int32} {x2 : Int32} {x3 : Int32} {s0 : Nat} (hs0 : am_SH[s0]? = some (.inr (0, 8))) {s1 : Int32} {s2 : Int32} (q1 : am_in s1 8 = true) (q2 : am_go sc d 93 (26, [some (.ref x0), some (.int x1), some (.int x2), some (.int (x3 + 1))], [], (am_SH, am_u I s0 (Int32.toNatClampNeg s1) s2, J, Pf), k, n) P) : am_go sc d 93 (101, [some (.ref x0), some (.int x1), some (.int x2), some (.int x3)], [.int s2, .int s1, .ref s0], (am_SH, I, J, Pf), k, n) P := by
  refine am_s_iastore dc93_8.1.1.1 hs0 (q1) rfl ?_
  refine am_s_iinc (ls' := [some (.ref x0), some (.int x1), some (.int x2), some (.int (x3 + 1))]) am_cc1 rfl rfl dc93_8.1.1.2 ?_
  refine am_s_goto rfl dc93_8.1.2.1 ?_
  exact q2
theorem t93_147 {sc : Option (Nat × (Nat → Int32))} {d k n : Nat} {P : am_O → Prop} {I : am_I} {J : am_J} {Pf : am_R} (hp : am_PF Pf) {x0 : Nat} (hx0 : am_SH[x0]? = some (.inl 7)) {x1 : Int32} {l2 : Option Value} {l3 : Option Value} {s0 : Nat} (hs0 : am_SH[s0]? = some (.inl 7)) {s1 : Int32} (q1 : am_go sc d 93 (127, [some (.ref x0), some (.int (x1 + 1)), l2, l3], [], (am_SH, am_u I s0 4 s1, J, Pf), k, n) P) : am_go sc d 93 (147, [some (.ref x0), some (.int x1), l2, l3], [.int s1, .ref s0], (am_SH, I, J, Pf), k, n) P := by
  refine am_s_putI dc93_10.2.2.2 rfl hs0 rfl rfl ?_
  refine am_s_iinc (ls' := [some (.ref x0), some (.int (x1 + 1)), l2, l3]) am_cc1 rfl rfl dc93_11.1 ?_
  refine am_s_goto rfl dc93_11.2.1 ?_
  exact q1
-- findEmpty (LPrunedParses$Rules;)V
theorem dc94_0 : (((decode (am_by 94) 0 = .ok (.iconst 0, 1)) ∧ (decode (am_by 94) 1 = .ok (.istore_n 2, 1))) ∧ ((decode (am_by 94) 2 = .ok (.iload_n 2, 1)) ∧ (decode (am_by 94) 3 = .ok (.aload_n 1, 1)))) ∧ (((decode (am_by 94) 4 = .ok (.getfield 44, 3)) ∧ (decode (am_by 94) 7 = .ok (.if_icmp .ge 70, 3))) ∧ ((decode (am_by 94) 10 = .ok (.iconst 1, 1)) ∧ (decode (am_by 94) 11 = .ok (.istore_n 3, 1)))) := by decide +kernel
theorem dc94_1 : (((decode (am_by 94) 12 = .ok (.iload_n 2, 1)) ∧ (decode (am_by 94) 13 = .ok (.iconst 4, 1))) ∧ ((decode (am_by 94) 14 = .ok (.imul, 1)) ∧ (decode (am_by 94) 15 = .ok (.istore 4, 2)))) ∧ (((decode (am_by 94) 17 = .ok (.iload 4, 2)) ∧ (decode (am_by 94) 19 = .ok (.iload_n 2, 1))) ∧ ((decode (am_by 94) 20 = .ok (.iconst 4, 1)) ∧ (decode (am_by 94) 21 = .ok (.imul, 1)))) := by decide +kernel
theorem dc94_2 : (((decode (am_by 94) 22 = .ok (.aload_n 1, 1)) ∧ (decode (am_by 94) 23 = .ok (.getfield 50, 3))) ∧ ((decode (am_by 94) 26 = .ok (.iload_n 2, 1)) ∧ (decode (am_by 94) 27 = .ok (.iaload, 1)))) ∧ (((decode (am_by 94) 28 = .ok (.iadd, 1)) ∧ (decode (am_by 94) 29 = .ok (.if_icmp .ge 21, 3))) ∧ ((decode (am_by 94) 32 = .ok (.aload_n 0, 1)) ∧ (decode (am_by 94) 33 = .ok (.aload_n 1, 1)))) := by decide +kernel
theorem dc94_3 : (((decode (am_by 94) 34 = .ok (.iload 4, 2)) ∧ (decode (am_by 94) 36 = .ok (.invokevirtual 112, 3))) ∧ ((decode (am_by 94) 39 = .ok (.ifCond .ne 5, 3)) ∧ (decode (am_by 94) 42 = .ok (.iconst 0, 1)))) ∧ (((decode (am_by 94) 43 = .ok (.istore_n 3, 1)) ∧ (decode (am_by 94) 44 = .ok (.iinc 4 1, 3))) ∧ ((decode (am_by 94) 47 = .ok (.goto (-30), 3)) ∧ (decode (am_by 94) 50 = .ok (.iload_n 3, 1)))) := by decide +kernel
theorem dc94_4 : (((decode (am_by 94) 51 = .ok (.ifCond .eq 20, 3)) ∧ (decode (am_by 94) 54 = .ok (.aload_n 0, 1))) ∧ ((decode (am_by 94) 55 = .ok (.dup, 1)) ∧ (decode (am_by 94) 56 = .ok (.getfield 83, 3)))) ∧ (((decode (am_by 94) 59 = .ok (.iconst 1, 1)) ∧ (decode (am_by 94) 60 = .ok (.aload_n 1, 1))) ∧ ((decode (am_by 94) 61 = .ok (.getfield 56, 3)) ∧ (decode (am_by 94) 64 = .ok (.iload_n 2, 1)))) := by decide +kernel
theorem dc94_5 : ((decode (am_by 94) 65 = .ok (.iaload, 1)) ∧ ((decode (am_by 94) 66 = .ok (.ishl, 1)) ∧ (decode (am_by 94) 67 = .ok (.ior, 1)))) ∧ (((decode (am_by 94) 68 = .ok (.putfield 83, 3)) ∧ (decode (am_by 94) 71 = .ok (.iinc 2 1, 3))) ∧ ((decode (am_by 94) 74 = .ok (.goto (-72), 3)) ∧ (decode (am_by 94) 77 = .ok (.return_, 1)))) := by decide +kernel
theorem t94_0 {sc : Option (Nat × (Nat → Int32))} {d k n : Nat} {P : am_O → Prop} {I : am_I} {J : am_J} {Pf : am_R} (hp : am_PF Pf) {x0 : Nat} (hx0 : am_SH[x0]? = some (.inl 7)) {x1 : Nat} (hx1 : am_SH[x1]? = some (.inl 4)) {l2 : Option Value} {l3 : Option Value} {l4 : Option Value} (q1 : am_go sc d 94 (2, [some (.ref x0), some (.ref x1), some (.int 0), l3, l4], [], (am_SH, I, J, Pf), k, n) P) : am_go sc d 94 (0, [some (.ref x0), some (.ref x1), l2, l3, l4], [], (am_SH, I, J, Pf), k, n) P := by
  refine am_s_iconst am_cc0 dc94_0.1.1.1 ?_
  refine am_s_istore_n (ls' := [some (.ref x0), some (.ref x1), some (.int 0), l3, l4]) rfl rfl dc94_0.1.1.2 ?_
  exact q1
theorem t94_2 {sc : Option (Nat × (Nat → Int32))} {d k n : Nat} {P : am_O → Prop} {I : am_I} {J : am_J} {Pf : am_R} (hp : am_PF Pf) {x0 : Nat} (hx0 : am_SH[x0]? = some (.inl 7)) {x1 : Nat} (hx1 : am_SH[x1]? = some (.inl 4)) {x2 : Int32} {l3 : Option Value} {l4 : Option Value} (q1 : ((I x1 2) ≤ x2) → P (.inl none, (am_SH, I, J, Pf), k, n)) (q2 : (¬ ((I x1 2) ≤ x2)) → am_go sc d 94 (17, [some (.ref x0), some (.ref x1), some (.int x2), some (.int 1), some (.int (x2 * 4))], [], (am_SH, I, J, Pf), k, n) P) : am_go sc d 94 (2, [some (.ref x0), some (.ref x1), some (.int x2), l3, l4], [], (am_SH, I, J, Pf), k, n) P := by
  refine am_s_iload_n rfl dc94_0.1.2.1 ?_
  refine am_s_aload_n rfl dc94_0.1.2.2 ?_
  refine am_x_getI (x := I x1 2) dc94_0.2.1.1 rfl hx1 (Or.inl rfl) rfl ?_
  refine am_s_ic_ge dc94_0.2.1.2 rfl (fun c1 => ?_) (fun c1 => ?_)
  · exact am_s_return dc94_5.2.2.2 rfl (q1 c1)
  · refine am_s_iconst am_cc1 dc94_0.2.2.1 ?_
    refine am_s_istore_n (ls' := [some (.ref x0), some (.ref x1), some (.int x2), some (.int 1), l4]) rfl rfl dc94_0.2.2.2 ?_
    refine am_s_iload_n rfl dc94_1.1.1.1 ?_
    refine am_s_iconst am_cc4 dc94_1.1.1.2 ?_
    refine am_s_imul dc94_1.1.2.1 ?_
    refine am_s_istore (ls' := [some (.ref x0), some (.ref x1), some (.int x2), some (.int 1), some (.int (x2 * 4))]) rfl rfl dc94_1.1.2.2 ?_
    exact q2 c1
theorem t94_17 {sc : Option (Nat × (Nat → Int32))} {d k n : Nat} {P : am_O → Prop} {I : am_I} {J : am_J} {Pf : am_R} (hp : am_PF Pf) {x0 : Nat} (hx0 : am_SH[x0]? = some (.inl 7)) {x1 : Nat} (hx1 : am_SH[x1]? = some (.inl 4)) {x2 : Int32} {x3 : Int32} {x4 : Int32} (q1 : am_in x2 20 = true) (q2 : (((x2 * 4) + (I (x1 + 4) (Int32.toNatClampNeg x2))) ≤ x4) → (x3 = 0) → am_go sc d 94 (2, [some (.ref x0), some (.ref x1), some (.int (x2 + 1)), some (.int x3), some (.int x4)], [], (am_SH, I, J, Pf), k, n) P) (q3 : (((x2 * 4) + (I (x1 + 4) (Int32.toNatClampNeg x2))) ≤ x4) → (¬ (x3 = 0)) → am_in x2 20 = true) (q4 : (((x2 * 4) + (I (x1 + 4) (Int32.toNatClampNeg x2))) ≤ x4) → (¬ (x3 = 0)) → am_go sc d 94 (2, [some (.ref x0), some (.ref x1), some (.int (x2 + 1)), some (.int x3), some (.int x4)], [], (am_SH, am_u I x0 5 ((I x0 5) ||| (1 <<< ((I (x1 + 2) (Int32.toNatClampNeg x2)) &&& 31))), J, Pf), k, n) P) (q5 : (¬ (((x2 * 4) + (I (x1 + 4) (Int32.toNatClampNeg x2))) ≤ x4)) → am_mth d 95 [.ref x0, .ref x1, .int x4] (am_SH, I, J, Pf) (am_af sc d 94 36 [some (.ref x0), some (.ref x1), some (.int x2), some (.int x3), some (.int x4)] [.int x4, .ref x1, .ref x0] [] (am_SH, I, J, Pf) k n true P)) : am_go sc d 94 (17, [some (.ref x0), some (.ref x1), some (.int x2), some (.int x3), some (.int x4)], [], (am_SH, I, J, Pf), k, n) P := by
  refine am_s_iload rfl dc94_1.2.1.1 ?_
  refine am_s_iload_n rfl dc94_1.2.1.2 ?_
  refine am_s_iconst am_cc4 dc94_1.2.2.1 ?_
  refine am_s_imul dc94_1.2.2.2 ?_
  refine am_s_aload_n rfl dc94_2.1.1.1 ?_
  refine am_s_getR (r := x1 + 4) dc94_2.1.1.2 rfl hx1 rfl (am_r4_5 hp hx1) ?_
  refine am_s_iload_n rfl dc94_2.1.2.1 ?_
  refine am_x_iaload (x := I (x1 + 4) (Int32.toNatClampNeg x2)) dc94_2.1.2.2 (am_h4_5 hx1) (q1) rfl rfl ?_
  refine am_s_iadd dc94_2.2.1.1 ?_
  refine am_s_ic_ge dc94_2.2.1.2 rfl (fun c1 => ?_) (fun c1 => ?_)
  · refine am_s_iload_n rfl dc94_3.2.2.2 ?_
    refine am_s_if_eq dc94_4.1.1.1 rfl (fun c2 => ?_) (fun c2 => ?_)
    · refine am_s_iinc (ls' := [some (.ref x0), some (.ref x1), some (.int (x2 + 1)), some (.int x3), some (.int x4)]) am_cc1 rfl rfl dc94_5.2.1.2 ?_
      refine am_s_goto rfl dc94_5.2.2.1 ?_
      exact q2 c1 c2
    · refine am_s_aload_n rfl dc94_4.1.1.2 ?_
      refine am_s_dup rfl dc94_4.1.2.1 ?_
      refine am_x_getI (x := I x0 5) dc94_4.1.2.2 rfl hx0 (Or.inl rfl) rfl ?_
      refine am_s_iconst am_cc1 dc94_4.2.1.1 ?_
      refine am_s_aload_n rfl dc94_4.2.1.2 ?_
      refine am_s_getR (r := x1 + 2) dc94_4.2.2.1 rfl hx1 rfl (am_r4_3 hp hx1) ?_
      refine am_s_iload_n rfl dc94_4.2.2.2 ?_
      refine am_x_iaload (x := I (x1 + 2) (Int32.toNatClampNeg x2)) dc94_5.1.1 (am_h4_3 hx1) (q3 c1 c2) rfl rfl ?_
      refine am_s_ishl dc94_5.1.2.1 ?_
      refine am_s_ior dc94_5.1.2.2 ?_
      refine am_s_putI dc94_5.2.1.1 rfl hx0 rfl rfl ?_
      refine am_s_iinc (ls' := [some (.ref x0), some (.ref x1), some (.int (x2 + 1)), some (.int x3), some (.int x4)]) am_cc1 rfl rfl dc94_5.2.1.2 ?_
      refine am_s_goto rfl dc94_5.2.2.1 ?_
      exact q4 c1 c2
  · refine am_s_aload_n rfl dc94_2.2.2.1 ?_
    refine am_s_aload_n rfl dc94_2.2.2.2 ?_
    refine am_s_iload rfl dc94_3.1.1.1 ?_
    exact am_s_virtual true dc94_3.1.1.2 rfl (by decide) rfl hx0 rfl (q5 c1)
theorem t94_39 {sc : Option (Nat × (Nat → Int32))} {d k n : Nat} {P : am_O → Prop} {I : am_I} {J : am_J} {Pf : am_R} (hp : am_PF Pf) {x0 : Nat} (hx0 : am_SH[x0]? = some (.inl 7)) {x1 : Nat} (hx1 : am_SH[x1]? = some (.inl 4)) {x2 : Int32} {x3 : Int32} {x4 : Int32} {s0 : Int32} (q1 : (¬ s0 = 0) → am_go sc d 94 (17, [some (.ref x0), some (.ref x1), some (.int x2), some (.int x3), some (.int (x4 + 1))], [], (am_SH, I, J, Pf), k, n) P) (q2 : (¬ (¬ s0 = 0)) → am_go sc d 94 (17, [some (.ref x0), some (.ref x1), some (.int x2), some (.int 0), some (.int (x4 + 1))], [], (am_SH, I, J, Pf), k, n) P) : am_go sc d 94 (39, [some (.ref x0), some (.ref x1), some (.int x2), some (.int x3), some (.int x4)], [.int s0], (am_SH, I, J, Pf), k, n) P := by
  refine am_s_if_ne dc94_3.1.2.1 rfl (fun c1 => ?_) (fun c1 => ?_)
  · refine am_s_iinc (ls' := [some (.ref x0), some (.ref x1), some (.int x2), some (.int x3), some (.int (x4 + 1))]) am_cc1 rfl rfl dc94_3.2.1.2 ?_
    refine am_s_goto rfl dc94_3.2.2.1 ?_
    exact q1 c1
  · refine am_s_iconst am_cc0 dc94_3.1.2.2 ?_
    refine am_s_istore_n (ls' := [some (.ref x0), some (.ref x1), some (.int x2), some (.int 0), some (.int x4)]) rfl rfl dc94_3.2.1.1 ?_
    refine am_s_iinc (ls' := [some (.ref x0), some (.ref x1), some (.int x2), some (.int 0), some (.int (x4 + 1))]) am_cc1 rfl rfl dc94_3.2.1.2 ?_
    refine am_s_goto rfl dc94_3.2.2.1 ?_
    exact q2 c1
-- canBeEmpty (LPrunedParses$Rules;I)Z
theorem dc95_0 : (((decode (am_by 95) 0 = .ok (.aload_n 1, 1)) ∧ (decode (am_by 95) 1 = .ok (.getfield 53, 3))) ∧ ((decode (am_by 95) 4 = .ok (.iload_n 2, 1)) ∧ (decode (am_by 95) 5 = .ok (.iaload, 1)))) ∧ (((decode (am_by 95) 6 = .ok (.iconst 1, 1)) ∧ (decode (am_by 95) 7 = .ok (.if_icmp .ne 23, 3))) ∧ ((decode (am_by 95) 10 = .ok (.aload_n 0, 1)) ∧ (decode (am_by 95) 11 = .ok (.getfield 83, 3)))) := by decide +kernel
theorem dc95_1 : (((decode (am_by 95) 14 = .ok (.aload_n 1, 1)) ∧ (decode (am_by 95) 15 = .ok (.getfield 59, 3))) ∧ ((decode (am_by 95) 18 = .ok (.iload_n 2, 1)) ∧ (decode (am_by 95) 19 = .ok (.iaload, 1)))) ∧ (((decode (am_by 95) 20 = .ok (.iushr, 1)) ∧ (decode (am_by 95) 21 = .ok (.iconst 1, 1))) ∧ ((decode (am_by 95) 22 = .ok (.iand, 1)) ∧ (decode (am_by 95) 23 = .ok (.ifCond .eq 7, 3)))) := by decide +kernel
theorem dc95_2 : ((decode (am_by 95) 26 = .ok (.iconst 1, 1)) ∧ (decode (am_by 95) 27 = .ok (.goto 4, 3))) ∧ ((decode (am_by 95) 30 = .ok (.iconst 0, 1)) ∧ (decode (am_by 95) 31 = .ok (.ireturn, 1))) := by decide +kernel
theorem t95_0 {sc : Option (Nat × (Nat → Int32))} {d k n : Nat} {P : am_O → Prop} {I : am_I} {J : am_J} {Pf : am_R} (hp : am_PF Pf) {x0 : Nat} (hx0 : am_SH[x0]? = some (.inl 7)) {x1 : Nat} (hx1 : am_SH[x1]? = some (.inl 4)) {x2 : Int32} (q1 : am_in x2 80 = true) (q2 : (¬ (I (x1 + 5) (Int32.toNatClampNeg x2)) = 1) → P (.inl (some (.int 0)), (am_SH, I, J, Pf), k, n)) (q3 : (¬ (¬ (I (x1 + 5) (Int32.toNatClampNeg x2)) = 1)) → am_in x2 80 = true) (q4 : (¬ (¬ (I (x1 + 5) (Int32.toNatClampNeg x2)) = 1)) → (((UInt32.toInt32 (Int32.toUInt32 (I x0 5) >>> (Int32.toUInt32 (I (x1 + 6) (Int32.toNatClampNeg x2)) &&& Int32.toUInt32 31))) &&& 1) = 0) → P (.inl (some (.int 0)), (am_SH, I, J, Pf), k, n)) (q5 : (¬ (¬ (I (x1 + 5) (Int32.toNatClampNeg x2)) = 1)) → (¬ (((UInt32.toInt32 (Int32.toUInt32 (I x0 5) >>> (Int32.toUInt32 (I (x1 + 6) (Int32.toNatClampNeg x2)) &&& Int32.toUInt32 31))) &&& 1) = 0)) → P (.inl (some (.int 1)), (am_SH, I, J, Pf), k, n)) : am_go sc d 95 (0, [some (.ref x0), some (.ref x1), some (.int x2)], [], (am_SH, I, J, Pf), k, n) P := by
  refine am_s_aload_n rfl dc95_0.1.1.1 ?_
  refine am_s_getR (r := x1 + 5) dc95_0.1.1.2 rfl hx1 rfl (am_r4_6 hp hx1) ?_
  refine am_s_iload_n rfl dc95_0.1.2.1 ?_
  refine am_x_iaload (x := I (x1 + 5) (Int32.toNatClampNeg x2)) dc95_0.1.2.2 (am_h4_6 hx1) (q1) rfl rfl ?_
  refine am_s_iconst am_cc1 dc95_0.2.1.1 ?_
  refine am_s_ic_ne dc95_0.2.1.2 rfl (fun c1 => ?_) (fun c1 => ?_)
  · refine am_s_iconst am_cc0 dc95_2.2.1 ?_
    exact am_s_zreturn dc95_2.2.2 rfl (by decide) (q2 c1)
  · refine am_s_aload_n rfl dc95_0.2.2.1 ?_
    refine am_x_getI (x := I x0 5) dc95_0.2.2.2 rfl hx0 (Or.inl rfl) rfl ?_
    refine am_s_aload_n rfl dc95_1.1.1.1 ?_
    refine am_s_getR (r := x1 + 6) dc95_1.1.1.2 rfl hx1 rfl (am_r4_7 hp hx1) ?_
    refine am_s_iload_n rfl dc95_1.1.2.1 ?_
    refine am_x_iaload (x := I (x1 + 6) (Int32.toNatClampNeg x2)) dc95_1.1.2.2 (am_h4_7 hx1) (q3 c1) rfl rfl ?_
    refine am_s_iushr dc95_1.2.1.1 ?_
    refine am_s_iconst am_cc1 dc95_1.2.1.2 ?_
    refine am_s_iand dc95_1.2.2.1 ?_
    refine am_s_if_eq dc95_1.2.2.2 rfl (fun c2 => ?_) (fun c2 => ?_)
    · refine am_s_iconst am_cc0 dc95_2.2.1 ?_
      exact am_s_zreturn dc95_2.2.2 rfl (by decide) (q4 c1 c2)
    · refine am_s_iconst am_cc1 dc95_2.1.1 ?_
      refine am_s_goto rfl dc95_2.1.2 ?_
      exact am_s_zreturn dc95_2.2.2 rfl (by decide) (q5 c1 c2)
-- findBegins (LPrunedParses$Rules;)V
theorem dc96_0 : (((decode (am_by 96) 0 = .ok (.iconst 0, 1)) ∧ (decode (am_by 96) 1 = .ok (.istore_n 2, 1))) ∧ ((decode (am_by 96) 2 = .ok (.iload_n 2, 1)) ∧ (decode (am_by 96) 3 = .ok (.aload_n 1, 1)))) ∧ (((decode (am_by 96) 4 = .ok (.getfield 44, 3)) ∧ (decode (am_by 96) 7 = .ok (.if_icmp .ge 132, 3))) ∧ ((decode (am_by 96) 10 = .ok (.aload_n 0, 1)) ∧ (decode (am_by 96) 11 = .ok (.getfield 26, 3)))) := by decide +kernel
theorem dc96_1 : (((decode (am_by 96) 14 = .ok (.aload_n 1, 1)) ∧ (decode (am_by 96) 15 = .ok (.getfield 56, 3))) ∧ ((decode (am_by 96) 18 = .ok (.iload_n 2, 1)) ∧ (decode (am_by 96) 19 = .ok (.iaload, 1)))) ∧ (((decode (am_by 96) 20 = .ok (.aaload, 1)) ∧ (decode (am_by 96) 21 = .ok (.astore_n 3, 1))) ∧ ((decode (am_by 96) 22 = .ok (.iload_n 2, 1)) ∧ (decode (am_by 96) 23 = .ok (.iconst 4, 1)))) := by decide +kernel
theorem dc96_2 : (((decode (am_by 96) 24 = .ok (.imul, 1)) ∧ (decode (am_by 96) 25 = .ok (.istore 4, 2))) ∧ ((decode (am_by 96) 27 = .ok (.iload 4, 2)) ∧ (decode (am_by 96) 29 = .ok (.iload_n 2, 1)))) ∧ (((decode (am_by 96) 30 = .ok (.iconst 4, 1)) ∧ (decode (am_by 96) 31 = .ok (.imul, 1))) ∧ ((decode (am_by 96) 32 = .ok (.aload_n 1, 1)) ∧ (decode (am_by 96) 33 = .ok (.getfield 50, 3)))) := by decide +kernel
theorem dc96_3 : (((decode (am_by 96) 36 = .ok (.iload_n 2, 1)) ∧ (decode (am_by 96) 37 = .ok (.iaload, 1))) ∧ ((decode (am_by 96) 38 = .ok (.iadd, 1)) ∧ (decode (am_by 96) 39 = .ok (.if_icmp .ge 94, 3)))) ∧ (((decode (am_by 96) 42 = .ok (.aload_n 1, 1)) ∧ (decode (am_by 96) 43 = .ok (.getfield 59, 3))) ∧ ((decode (am_by 96) 46 = .ok (.iload 4, 2)) ∧ (decode (am_by 96) 48 = .ok (.iaload, 1)))) := by decide +kernel
theorem dc96_4 : (((decode (am_by 96) 49 = .ok (.istore 5, 2)) ∧ (decode (am_by 96) 51 = .ok (.aload_n 1, 1))) ∧ ((decode (am_by 96) 52 = .ok (.getfield 53, 3)) ∧ (decode (am_by 96) 55 = .ok (.iload 4, 2)))) ∧ (((decode (am_by 96) 57 = .ok (.iaload, 1)) ∧ (decode (am_by 96) 58 = .ok (.ifCond .ne 17, 3))) ∧ ((decode (am_by 96) 61 = .ok (.aload_n 3, 1)) ∧ (decode (am_by 96) 62 = .ok (.aload_n 1, 1)))) := by decide +kernel
theorem dc96_5 : (((decode (am_by 96) 63 = .ok (.getfield 116, 3)) ∧ (decode (am_by 96) 66 = .ok (.iload 5, 2))) ∧ ((decode (am_by 96) 68 = .ok (.aaload, 1)) ∧ (decode (am_by 96) 69 = .ok (.invokevirtual 119, 3)))) ∧ (((decode (am_by 96) 72 = .ok (.goto 42, 3)) ∧ (decode (am_by 96) 75 = .ok (.aload_n 1, 1))) ∧ ((decode (am_by 96) 76 = .ok (.getfield 53, 3)) ∧ (decode (am_by 96) 79 = .ok (.iload 4, 2)))) := by decide +kernel
theorem dc96_6 : (((decode (am_by 96) 81 = .ok (.iaload, 1)) ∧ (decode (am_by 96) 82 = .ok (.iconst 1, 1))) ∧ ((decode (am_by 96) 83 = .ok (.if_icmp .ne 17, 3)) ∧ (decode (am_by 96) 86 = .ok (.aload_n 3, 1)))) ∧ (((decode (am_by 96) 87 = .ok (.aload_n 0, 1)) ∧ (decode (am_by 96) 88 = .ok (.getfield 26, 3))) ∧ ((decode (am_by 96) 91 = .ok (.iload 5, 2)) ∧ (decode (am_by 96) 93 = .ok (.aaload, 1)))) := by decide +kernel
theorem dc96_7 : (((decode (am_by 96) 94 = .ok (.invokevirtual 119, 3)) ∧ (decode (am_by 96) 97 = .ok (.goto 17, 3))) ∧ ((decode (am_by 96) 100 = .ok (.aload_n 3, 1)) ∧ (decode (am_by 96) 101 = .ok (.aload_n 1, 1)))) ∧ (((decode (am_by 96) 102 = .ok (.getfield 123, 3)) ∧ (decode (am_by 96) 105 = .ok (.iload 4, 2))) ∧ ((decode (am_by 96) 107 = .ok (.bipush 8, 2)) ∧ (decode (am_by 96) 109 = .ok (.imul, 1)))) := by decide +kernel
theorem dc96_8 : (((decode (am_by 96) 110 = .ok (.iaload, 1)) ∧ (decode (am_by 96) 111 = .ok (.invokevirtual 126, 3))) ∧ ((decode (am_by 96) 114 = .ok (.aload_n 0, 1)) ∧ (decode (am_by 96) 115 = .ok (.aload_n 1, 1)))) ∧ (((decode (am_by 96) 116 = .ok (.iload 4, 2)) ∧ (decode (am_by 96) 118 = .ok (.invokevirtual 112, 3))) ∧ ((decode (am_by 96) 121 = .ok (.ifCond .ne 6, 3)) ∧ (decode (am_by 96) 124 = .ok (.goto 9, 3)))) := by decide +kernel
theorem dc96_9 : (((decode (am_by 96) 127 = .ok (.iinc 4 1, 3)) ∧ (decode (am_by 96) 130 = .ok (.goto (-103), 3))) ∧ ((decode (am_by 96) 133 = .ok (.iinc 2 1, 3)) ∧ (decode (am_by 96) 136 = .ok (.goto (-134), 3)))) ∧ (((decode (am_by 96) 139 = .ok (.iconst 0, 1)) ∧ (decode (am_by 96) 140 = .ok (.istore_n 2, 1))) ∧ ((decode (am_by 96) 141 = .ok (.iload_n 2, 1)) ∧ (decode (am_by 96) 142 = .ok (.aload_n 1, 1)))) := by decide +kernel
theorem dc96_10 : (((decode (am_by 96) 143 = .ok (.getfield 62, 3)) ∧ (decode (am_by 96) 146 = .ok (.if_icmp .ge 31, 3))) ∧ ((decode (am_by 96) 149 = .ok (.aload_n 0, 1)) ∧ (decode (am_by 96) 150 = .ok (.getfield 26, 3)))) ∧ (((decode (am_by 96) 153 = .ok (.aload_n 1, 1)) ∧ (decode (am_by 96) 154 = .ok (.getfield 65, 3))) ∧ ((decode (am_by 96) 157 = .ok (.iload_n 2, 1)) ∧ (decode (am_by 96) 158 = .ok (.iaload, 1)))) := by decide +kernel
theorem dc96_11 : (((decode (am_by 96) 159 = .ok (.aaload, 1)) ∧ (decode (am_by 96) 160 = .ok (.aload_n 1, 1))) ∧ ((decode (am_by 96) 161 = .ok (.getfield 130, 3)) ∧ (decode (am_by 96) 164 = .ok (.iload_n 2, 1)))) ∧ (((decode (am_by 96) 165 = .ok (.iconst 3, 1)) ∧ (decode (am_by 96) 166 = .ok (.imul, 1))) ∧ ((decode (am_by 96) 167 = .ok (.iaload, 1)) ∧ (decode (am_by 96) 168 = .ok (.invokevirtual 126, 3)))) := by decide +kernel
theorem dc96_12 : (decode (am_by 96) 171 = .ok (.iinc 2 1, 3)) ∧ ((decode (am_by 96) 174 = .ok (.goto (-33), 3)) ∧ (decode (am_by 96) 177 = .ok (.return_, 1))) := by decide +kernel
theorem t96_0 {sc : Option (Nat × (Nat → Int32))} {d k n : Nat} {P : am_O → Prop} {I : am_I} {J : am_J} {Pf : am_R} (hp : am_PF Pf) {x0 : Nat} (hx0 : am_SH[x0]? = some (.inl 7)) {x1 : Nat} (hx1 : am_SH[x1]? = some (.inl 4)) {l2 : Option Value} {l3 : Option Value} {l4 : Option Value} {l5 : Option Value} (q1 : am_go sc d 96 (2, [some (.ref x0), some (.ref x1), some (.int 0), l3, l4, l5], [], (am_SH, I, J, Pf), k, n) P) : am_go sc d 96 (0, [some (.ref x0), some (.ref x1), l2, l3, l4, l5], [], (am_SH, I, J, Pf), k, n) P := by
  refine am_s_iconst am_cc0 dc96_0.1.1.1 ?_
  refine am_s_istore_n (ls' := [some (.ref x0), some (.ref x1), some (.int 0), l3, l4, l5]) rfl rfl dc96_0.1.1.2 ?_
  exact q1
theorem t96_2 {sc : Option (Nat × (Nat → Int32))} {d k n : Nat} {P : am_O → Prop} {I : am_I} {J : am_J} {Pf : am_R} (hp : am_PF Pf) {x0 : Nat} (hx0 : am_SH[x0]? = some (.inl 7)) {x1 : Nat} (hx1 : am_SH[x1]? = some (.inl 4)) {x2 : Int32} {l3 : Option Value} {l4 : Option Value} {l5 : Option Value} {r20 : Nat} (q1 : ((I x1 2) ≤ x2) → am_go sc d 96 (141, [some (.ref x0), some (.ref x1), some (.int 0), l3, l4, l5], [], (am_SH, I, J, Pf), k, n) P) (q2 : (¬ ((I x1 2) ≤ x2)) → am_in x2 20 = true) (q3 : (¬ ((I x1 2) ≤ x2)) → am_in (I (x1 + 2) (Int32.toNatClampNeg x2)) 8 = true) (q4 : (¬ ((I x1 2) ≤ x2)) → Pf (x0 + 5) (Int32.toNatClampNeg (I (x1 + 2) (Int32.toNatClampNeg x2))) = some r20) (q5 : (¬ ((I x1 2) ≤ x2)) → am_SH[r20]? = some (.inl 6)) (q6 : (¬ ((I x1 2) ≤ x2)) → am_go sc d 96 (27, [some (.ref x0), some (.ref x1), some (.int x2), some (.ref r20), some (.int (x2 * 4)), l5], [], (am_SH, I, J, Pf), k, n) P) : am_go sc d 96 (2, [some (.ref x0), some (.ref x1), some (.int x2), l3, l4, l5], [], (am_SH, I, J, Pf), k, n) P := by
  refine am_s_iload_n rfl dc96_0.1.2.1 ?_
  refine am_s_aload_n rfl dc96_0.1.2.2 ?_
  refine am_x_getI (x := I x1 2) dc96_0.2.1.1 rfl hx1 (Or.inl rfl) rfl ?_
  refine am_s_ic_ge dc96_0.2.1.2 rfl (fun c1 => ?_) (fun c1 => ?_)
  · refine am_s_iconst am_cc0 dc96_9.2.1.1 ?_
    refine am_s_istore_n (ls' := [some (.ref x0), some (.ref x1), some (.int 0), l3, l4, l5]) rfl rfl dc96_9.2.1.2 ?_
    exact q1 c1
  · refine am_s_aload_n rfl dc96_0.2.2.1 ?_
    refine am_s_getR (r := x0 + 5) dc96_0.2.2.2 rfl hx0 rfl (am_r7_6 hp hx0) ?_
    refine am_s_aload_n rfl dc96_1.1.1.1 ?_
    refine am_s_getR (r := x1 + 2) dc96_1.1.1.2 rfl hx1 rfl (am_r4_3 hp hx1) ?_
    refine am_s_iload_n rfl dc96_1.1.2.1 ?_
    refine am_x_iaload (x := I (x1 + 2) (Int32.toNatClampNeg x2)) dc96_1.1.2.2 (am_h4_3 hx1) (q2 c1) rfl rfl ?_
    refine am_s_aaload (r := r20) dc96_1.2.1.1 (am_h7_6 hx0) rfl (q3 c1) (q4 c1) ?_
    refine am_s_astore_n (ls' := [some (.ref x0), some (.ref x1), some (.int x2), some (.ref r20), l4, l5]) rfl rfl dc96_1.2.1.2 ?_
    refine am_s_iload_n rfl dc96_1.2.2.1 ?_
    refine am_s_iconst am_cc4 dc96_1.2.2.2 ?_
    refine am_s_imul dc96_2.1.1.1 ?_
    refine am_s_istore (ls' := [some (.ref x0), some (.ref x1), some (.int x2), some (.ref r20), some (.int (x2 * 4)), l5]) rfl rfl dc96_2.1.1.2 ?_
    exact q6 c1
theorem t96_27 {sc : Option (Nat × (Nat → Int32))} {d k n : Nat} {P : am_O → Prop} {I : am_I} {J : am_J} {Pf : am_R} (hp : am_PF Pf) {x0 : Nat} (hx0 : am_SH[x0]? = some (.inl 7)) {x1 : Nat} (hx1 : am_SH[x1]? = some (.inl 4)) {x2 : Int32} {x3 : Nat} (hx3 : am_SH[x3]? = some (.inl 6)) {x4 : Int32} {l5 : Option Value} {r93 : Nat} {r68 : Nat} (q1 : am_in x2 20 = true) (q2 : (((x2 * 4) + (I (x1 + 4) (Int32.toNatClampNeg x2))) ≤ x4) → am_go sc d 96 (2, [some (.ref x0), some (.ref x1), some (.int (x2 + 1)), some (.ref x3), some (.int x4), l5], [], (am_SH, I, J, Pf), k, n) P) (q3 : (¬ (((x2 * 4) + (I (x1 + 4) (Int32.toNatClampNeg x2))) ≤ x4)) → am_in x4 80 = true) (q4 : (¬ (((x2 * 4) + (I (x1 + 4) (Int32.toNatClampNeg x2))) ≤ x4)) → am_in x4 80 = true) (q5 : (¬ (((x2 * 4) + (I (x1 + 4) (Int32.toNatClampNeg x2))) ≤ x4)) → (¬ (I (x1 + 5) (Int32.toNatClampNeg x4)) = 0) → am_in x4 80 = true) (q6 : (¬ (((x2 * 4) + (I (x1 + 4) (Int32.toNatClampNeg x2))) ≤ x4)) → (¬ (I (x1 + 5) (Int32.toNatClampNeg x4)) = 0) → (¬ (I (x1 + 5) (Int32.toNatClampNeg x4)) = 1) → am_in (x4 * 8) 640 = true) (q7 : (¬ (((x2 * 4) + (I (x1 + 4) (Int32.toNatClampNeg x2))) ≤ x4)) → (¬ (I (x1 + 5) (Int32.toNatClampNeg x4)) = 0) → (¬ (I (x1 + 5) (Int32.toNatClampNeg x4)) = 1) → am_mth d 77 [.ref x3, .int (I (x1 + 7) (Int32.toNatClampNeg (x4 * 8)))] (am_SH, I, J, Pf) (am_af sc d 96 111 [some (.ref x0), some (.ref x1), some (.int x2), some (.ref x3), some (.int x4), some (.int (I (x1 + 6) (Int32.toNatClampNeg x4)))] [.int (I (x1 + 7) (Int32.toNatClampNeg (x4 * 8))), .ref x3] [] (am_SH, I, J, Pf) k n false P)) (q8 : (¬ (((x2 * 4) + (I (x1 + 4) (Int32.toNatClampNeg x2))) ≤ x4)) → (¬ (I (x1 + 5) (Int32.toNatClampNeg x4)) = 0) → (¬ (¬ (I (x1 + 5) (Int32.toNatClampNeg x4)) = 1)) → am_in (I (x1 + 6) (Int32.toNatClampNeg x4)) 8 = true) (q9 : (¬ (((x2 * 4) + (I (x1 + 4) (Int32.toNatClampNeg x2))) ≤ x4)) → (¬ (I (x1 + 5) (Int32.toNatClampNeg x4)) = 0) → (¬ (¬ (I (x1 + 5) (Int32.toNatClampNeg x4)) = 1)) → Pf (x0 + 5) (Int32.toNatClampNeg (I (x1 + 6) (Int32.toNatClampNeg x4))) = some r93) (q10 : (¬ (((x2 * 4) + (I (x1 + 4) (Int32.toNatClampNeg x2))) ≤ x4)) → (¬ (I (x1 + 5) (Int32.toNatClampNeg x4)) = 0) → (¬ (¬ (I (x1 + 5) (Int32.toNatClampNeg x4)) = 1)) → am_SH[r93]? = some (.inl 6)) (q11 : (¬ (((x2 * 4) + (I (x1 + 4) (Int32.toNatClampNeg x2))) ≤ x4)) → (¬ (I (x1 + 5) (Int32.toNatClampNeg x4)) = 0) → (¬ (¬ (I (x1 + 5) (Int32.toNatClampNeg x4)) = 1)) → am_mth d 79 [.ref x3, .ref r93] (am_SH, I, J, Pf) (am_af sc d 96 94 [some (.ref x0), some (.ref x1), some (.int x2), some (.ref x3), some (.int x4), some (.int (I (x1 + 6) (Int32.toNatClampNeg x4)))] [.ref r93, .ref x3] [] (am_SH, I, J, Pf) k n false P)) (q12 : (¬ (((x2 * 4) + (I (x1 + 4) (Int32.toNatClampNeg x2))) ≤ x4)) → (¬ (¬ (I (x1 + 5) (Int32.toNatClampNeg x4)) = 0)) → am_in (I (x1 + 6) (Int32.toNatClampNeg x4)) 8 = true) (q13 : (¬ (((x2 * 4) + (I (x1 + 4) (Int32.toNatClampNeg x2))) ≤ x4)) → (¬ (¬ (I (x1 + 5) (Int32.toNatClampNeg x4)) = 0)) → Pf (x1 + 1) (Int32.toNatClampNeg (I (x1 + 6) (Int32.toNatClampNeg x4))) = some r68) (q14 : (¬ (((x2 * 4) + (I (x1 + 4) (Int32.toNatClampNeg x2))) ≤ x4)) → (¬ (¬ (I (x1 + 5) (Int32.toNatClampNeg x4)) = 0)) → am_SH[r68]? = some (.inl 6)) (q15 : (¬ (((x2 * 4) + (I (x1 + 4) (Int32.toNatClampNeg x2))) ≤ x4)) → (¬ (¬ (I (x1 + 5) (Int32.toNatClampNeg x4)) = 0)) → am_mth d 79 [.ref x3, .ref r68] (am_SH, I, J, Pf) (am_af sc d 96 69 [some (.ref x0), some (.ref x1), some (.int x2), some (.ref x3), some (.int x4), some (.int (I (x1 + 6) (Int32.toNatClampNeg x4)))] [.ref r68, .ref x3] [] (am_SH, I, J, Pf) k n false P)) : am_go sc d 96 (27, [some (.ref x0), some (.ref x1), some (.int x2), some (.ref x3), some (.int x4), l5], [], (am_SH, I, J, Pf), k, n) P := by
  refine am_s_iload rfl dc96_2.1.2.1 ?_
  refine am_s_iload_n rfl dc96_2.1.2.2 ?_
  refine am_s_iconst am_cc4 dc96_2.2.1.1 ?_
  refine am_s_imul dc96_2.2.1.2 ?_
  refine am_s_aload_n rfl dc96_2.2.2.1 ?_
  refine am_s_getR (r := x1 + 4) dc96_2.2.2.2 rfl hx1 rfl (am_r4_5 hp hx1) ?_
  refine am_s_iload_n rfl dc96_3.1.1.1 ?_
  refine am_x_iaload (x := I (x1 + 4) (Int32.toNatClampNeg x2)) dc96_3.1.1.2 (am_h4_5 hx1) (q1) rfl rfl ?_
  refine am_s_iadd dc96_3.1.2.1 ?_
  refine am_s_ic_ge dc96_3.1.2.2 rfl (fun c1 => ?_) (fun c1 => ?_)
  · refine am_s_iinc (ls' := [some (.ref x0), some (.ref x1), some (.int (x2 + 1)), some (.ref x3), some (.int x4), l5]) am_cc1 rfl rfl dc96_9.1.2.1 ?_
    refine am_s_goto rfl dc96_9.1.2.2 ?_
    exact q2 c1
  · refine am_s_aload_n rfl dc96_3.2.1.1 ?_
    refine am_s_getR (r := x1 + 6) dc96_3.2.1.2 rfl hx1 rfl (am_r4_7 hp hx1) ?_
    refine am_s_iload rfl dc96_3.2.2.1 ?_
    refine am_x_iaload (x := I (x1 + 6) (Int32.toNatClampNeg x4)) dc96_3.2.2.2 (am_h4_7 hx1) (q3 c1) rfl rfl ?_
    refine am_s_istore (ls' := [some (.ref x0), some (.ref x1), some (.int x2), some (.ref x3), some (.int x4), some (.int (I (x1 + 6) (Int32.toNatClampNeg x4)))]) rfl rfl dc96_4.1.1.1 ?_
    refine am_s_aload_n rfl dc96_4.1.1.2 ?_
    refine am_s_getR (r := x1 + 5) dc96_4.1.2.1 rfl hx1 rfl (am_r4_6 hp hx1) ?_
    refine am_s_iload rfl dc96_4.1.2.2 ?_
    refine am_x_iaload (x := I (x1 + 5) (Int32.toNatClampNeg x4)) dc96_4.2.1.1 (am_h4_6 hx1) (q4 c1) rfl rfl ?_
    refine am_s_if_ne dc96_4.2.1.2 rfl (fun c2 => ?_) (fun c2 => ?_)
    · refine am_s_aload_n rfl dc96_5.2.1.2 ?_
      refine am_s_getR (r := x1 + 5) dc96_5.2.2.1 rfl hx1 rfl (am_r4_6 hp hx1) ?_
      refine am_s_iload rfl dc96_5.2.2.2 ?_
      refine am_x_iaload (x := I (x1 + 5) (Int32.toNatClampNeg x4)) dc96_6.1.1.1 (am_h4_6 hx1) (q5 c1 c2) rfl rfl ?_
      refine am_s_iconst am_cc1 dc96_6.1.1.2 ?_
      refine am_s_ic_ne dc96_6.1.2.1 rfl (fun c3 => ?_) (fun c3 => ?_)
      · refine am_s_aload_n rfl dc96_7.1.2.1 ?_
        refine am_s_aload_n rfl dc96_7.1.2.2 ?_
        refine am_s_getR (r := x1 + 7) dc96_7.2.1.1 rfl hx1 rfl (am_r4_8 hp hx1) ?_
        refine am_s_iload rfl dc96_7.2.1.2 ?_
        refine am_s_bipush am_cb8 dc96_7.2.2.1 ?_
        refine am_s_imul dc96_7.2.2.2 ?_
        refine am_x_iaload (x := I (x1 + 7) (Int32.toNatClampNeg (x4 * 8))) dc96_8.1.1.1 (am_h4_8 hx1) (q6 c1 c2 c3) rfl rfl ?_
        exact am_s_virtual false dc96_8.1.1.2 rfl (by decide) rfl hx3 rfl (q7 c1 c2 c3)
      · refine am_s_aload_n rfl dc96_6.1.2.2 ?_
        refine am_s_aload_n rfl dc96_6.2.1.1 ?_
        refine am_s_getR (r := x0 + 5) dc96_6.2.1.2 rfl hx0 rfl (am_r7_6 hp hx0) ?_
        refine am_s_iload rfl dc96_6.2.2.1 ?_
        refine am_s_aaload (r := r93) dc96_6.2.2.2 (am_h7_6 hx0) rfl (q8 c1 c2 c3) (q9 c1 c2 c3) ?_
        exact am_s_virtual false dc96_7.1.1.1 rfl (by decide) rfl hx3 rfl (q11 c1 c2 c3)
    · refine am_s_aload_n rfl dc96_4.2.2.1 ?_
      refine am_s_aload_n rfl dc96_4.2.2.2 ?_
      refine am_s_getR (r := x1 + 1) dc96_5.1.1.1 rfl hx1 rfl (am_r4_0 hp hx1) ?_
      refine am_s_iload rfl dc96_5.1.1.2 ?_
      refine am_s_aaload (r := r68) dc96_5.1.2.1 (am_h4_0 hx1) rfl (q12 c1 c2) (q13 c1 c2) ?_
      exact am_s_virtual false dc96_5.1.2.2 rfl (by decide) rfl hx3 rfl (q15 c1 c2)
theorem t96_141 {sc : Option (Nat × (Nat → Int32))} {d k n : Nat} {P : am_O → Prop} {I : am_I} {J : am_J} {Pf : am_R} (hp : am_PF Pf) {x0 : Nat} (hx0 : am_SH[x0]? = some (.inl 7)) {x1 : Nat} (hx1 : am_SH[x1]? = some (.inl 4)) {x2 : Int32} {l3 : Option Value} {l4 : Option Value} {l5 : Option Value} {r159 : Nat} (q1 : ((I x1 9) ≤ x2) → P (.inl none, (am_SH, I, J, Pf), k, n)) (q2 : (¬ ((I x1 9) ≤ x2)) → am_in x2 4 = true) (q3 : (¬ ((I x1 9) ≤ x2)) → am_in (I (x1 + 8) (Int32.toNatClampNeg x2)) 8 = true) (q4 : (¬ ((I x1 9) ≤ x2)) → Pf (x0 + 5) (Int32.toNatClampNeg (I (x1 + 8) (Int32.toNatClampNeg x2))) = some r159) (q5 : (¬ ((I x1 9) ≤ x2)) → am_SH[r159]? = some (.inl 6)) (q6 : (¬ ((I x1 9) ≤ x2)) → am_in (x2 * 3) 12 = true) (q7 : (¬ ((I x1 9) ≤ x2)) → am_mth d 77 [.ref r159, .int (I (x1 + 10) (Int32.toNatClampNeg (x2 * 3)))] (am_SH, I, J, Pf) (am_af sc d 96 168 [some (.ref x0), some (.ref x1), some (.int x2), l3, l4, l5] [.int (I (x1 + 10) (Int32.toNatClampNeg (x2 * 3))), .ref r159] [] (am_SH, I, J, Pf) k n false P)) : am_go sc d 96 (141, [some (.ref x0), some (.ref x1), some (.int x2), l3, l4, l5], [], (am_SH, I, J, Pf), k, n) P := by
  refine am_s_iload_n rfl dc96_9.2.2.1 ?_
  refine am_s_aload_n rfl dc96_9.2.2.2 ?_
  refine am_x_getI (x := I x1 9) dc96_10.1.1.1 rfl hx1 (Or.inl rfl) rfl ?_
  refine am_s_ic_ge dc96_10.1.1.2 rfl (fun c1 => ?_) (fun c1 => ?_)
  · exact am_s_return dc96_12.2.2 rfl (q1 c1)
  · refine am_s_aload_n rfl dc96_10.1.2.1 ?_
    refine am_s_getR (r := x0 + 5) dc96_10.1.2.2 rfl hx0 rfl (am_r7_6 hp hx0) ?_
    refine am_s_aload_n rfl dc96_10.2.1.1 ?_
    refine am_s_getR (r := x1 + 8) dc96_10.2.1.2 rfl hx1 rfl (am_r4_10 hp hx1) ?_
    refine am_s_iload_n rfl dc96_10.2.2.1 ?_
    refine am_x_iaload (x := I (x1 + 8) (Int32.toNatClampNeg x2)) dc96_10.2.2.2 (am_h4_10 hx1) (q2 c1) rfl rfl ?_
    refine am_s_aaload (r := r159) dc96_11.1.1.1 (am_h7_6 hx0) rfl (q3 c1) (q4 c1) ?_
    refine am_s_aload_n rfl dc96_11.1.1.2 ?_
    refine am_s_getR (r := x1 + 10) dc96_11.1.2.1 rfl hx1 rfl (am_r4_12 hp hx1) ?_
    refine am_s_iload_n rfl dc96_11.1.2.2 ?_
    refine am_s_iconst am_cc3 dc96_11.2.1.1 ?_
    refine am_s_imul dc96_11.2.1.2 ?_
    refine am_x_iaload (x := I (x1 + 10) (Int32.toNatClampNeg (x2 * 3))) dc96_11.2.2.1 (am_h4_12 hx1) (q6 c1) rfl rfl ?_
    exact am_s_virtual false dc96_11.2.2.2 rfl (by decide) rfl (q5 c1) rfl (q7 c1)
theorem t96_72 {sc : Option (Nat × (Nat → Int32))} {d k n : Nat} {P : am_O → Prop} {I : am_I} {J : am_J} {Pf : am_R} (hp : am_PF Pf) {x0 : Nat} (hx0 : am_SH[x0]? = some (.inl 7)) {x1 : Nat} (hx1 : am_SH[x1]? = some (.inl 4)) {x2 : Int32} {x3 : Nat} (hx3 : am_SH[x3]? = some (.inl 6)) {x4 : Int32} {l5 : Option Value} (q1 : am_mth d 95 [.ref x0, .ref x1, .int x4] (am_SH, I, J, Pf) (am_af sc d 96 118 [some (.ref x0), some (.ref x1), some (.int x2), some (.ref x3), some (.int x4), l5] [.int x4, .ref x1, .ref x0] [] (am_SH, I, J, Pf) k n true P)) : am_go sc d 96 (72, [some (.ref x0), some (.ref x1), some (.int x2), some (.ref x3), some (.int x4), l5], [], (am_SH, I, J, Pf), k, n) P := by
  refine am_s_goto rfl dc96_5.2.1.1 ?_
  refine am_s_aload_n rfl dc96_8.1.2.1 ?_
  refine am_s_aload_n rfl dc96_8.1.2.2 ?_
  refine am_s_iload rfl dc96_8.2.1.1 ?_
  exact am_s_virtual true dc96_8.2.1.2 rfl (by decide) rfl hx0 rfl (q1)
theorem t96_97 {sc : Option (Nat × (Nat → Int32))} {d k n : Nat} {P : am_O → Prop} {I : am_I} {J : am_J} {Pf : am_R} (hp : am_PF Pf) {x0 : Nat} (hx0 : am_SH[x0]? = some (.inl 7)) {x1 : Nat} (hx1 : am_SH[x1]? = some (.inl 4)) {x2 : Int32} {x3 : Nat} (hx3 : am_SH[x3]? = some (.inl 6)) {x4 : Int32} {l5 : Option Value} (q1 : am_mth d 95 [.ref x0, .ref x1, .int x4] (am_SH, I, J, Pf) (am_af sc d 96 118 [some (.ref x0), some (.ref x1), some (.int x2), some (.ref x3), some (.int x4), l5] [.int x4, .ref x1, .ref x0] [] (am_SH, I, J, Pf) k n true P)) : am_go sc d 96 (97, [some (.ref x0), some (.ref x1), some (.int x2), some (.ref x3), some (.int x4), l5], [], (am_SH, I, J, Pf), k, n) P := by
  refine am_s_goto rfl dc96_7.1.1.2 ?_
  refine am_s_aload_n rfl dc96_8.1.2.1 ?_
  refine am_s_aload_n rfl dc96_8.1.2.2 ?_
  refine am_s_iload rfl dc96_8.2.1.1 ?_
  exact am_s_virtual true dc96_8.2.1.2 rfl (by decide) rfl hx0 rfl (q1)
theorem t96_114 {sc : Option (Nat × (Nat → Int32))} {d k n : Nat} {P : am_O → Prop} {I : am_I} {J : am_J} {Pf : am_R} (hp : am_PF Pf) {x0 : Nat} (hx0 : am_SH[x0]? = some (.inl 7)) {x1 : Nat} (hx1 : am_SH[x1]? = some (.inl 4)) {x2 : Int32} {x3 : Nat} (hx3 : am_SH[x3]? = some (.inl 6)) {x4 : Int32} {l5 : Option Value} (q1 : am_mth d 95 [.ref x0, .ref x1, .int x4] (am_SH, I, J, Pf) (am_af sc d 96 118 [some (.ref x0), some (.ref x1), some (.int x2), some (.ref x3), some (.int x4), l5] [.int x4, .ref x1, .ref x0] [] (am_SH, I, J, Pf) k n true P)) : am_go sc d 96 (114, [some (.ref x0), some (.ref x1), some (.int x2), some (.ref x3), some (.int x4), l5], [], (am_SH, I, J, Pf), k, n) P := by
  refine am_s_aload_n rfl dc96_8.1.2.1 ?_
  refine am_s_aload_n rfl dc96_8.1.2.2 ?_
  refine am_s_iload rfl dc96_8.2.1.1 ?_
  exact am_s_virtual true dc96_8.2.1.2 rfl (by decide) rfl hx0 rfl (q1)
theorem t96_171 {sc : Option (Nat × (Nat → Int32))} {d k n : Nat} {P : am_O → Prop} {I : am_I} {J : am_J} {Pf : am_R} (hp : am_PF Pf) {x0 : Nat} (hx0 : am_SH[x0]? = some (.inl 7)) {x1 : Nat} (hx1 : am_SH[x1]? = some (.inl 4)) {x2 : Int32} {l3 : Option Value} {l4 : Option Value} {l5 : Option Value} (q1 : am_go sc d 96 (141, [some (.ref x0), some (.ref x1), some (.int (x2 + 1)), l3, l4, l5], [], (am_SH, I, J, Pf), k, n) P) : am_go sc d 96 (171, [some (.ref x0), some (.ref x1), some (.int x2), l3, l4, l5], [], (am_SH, I, J, Pf), k, n) P := by
  refine am_s_iinc (ls' := [some (.ref x0), some (.ref x1), some (.int (x2 + 1)), l3, l4, l5]) am_cc1 rfl rfl dc96_12.1 ?_
  refine am_s_goto rfl dc96_12.2.1 ?_
  exact q1
theorem t96_121 {sc : Option (Nat × (Nat → Int32))} {d k n : Nat} {P : am_O → Prop} {I : am_I} {J : am_J} {Pf : am_R} (hp : am_PF Pf) {x0 : Nat} (hx0 : am_SH[x0]? = some (.inl 7)) {x1 : Nat} (hx1 : am_SH[x1]? = some (.inl 4)) {x2 : Int32} {x3 : Nat} (hx3 : am_SH[x3]? = some (.inl 6)) {x4 : Int32} {l5 : Option Value} {s0 : Int32} (q1 : (¬ s0 = 0) → am_go sc d 96 (27, [some (.ref x0), some (.ref x1), some (.int x2), some (.ref x3), some (.int (x4 + 1)), l5], [], (am_SH, I, J, Pf), k, n) P) (q2 : (¬ (¬ s0 = 0)) → am_go sc d 96 (2, [some (.ref x0), some (.ref x1), some (.int (x2 + 1)), some (.ref x3), some (.int x4), l5], [], (am_SH, I, J, Pf), k, n) P) : am_go sc d 96 (121, [some (.ref x0), some (.ref x1), some (.int x2), some (.ref x3), some (.int x4), l5], [.int s0], (am_SH, I, J, Pf), k, n) P := by
  refine am_s_if_ne dc96_8.2.2.1 rfl (fun c1 => ?_) (fun c1 => ?_)
  · refine am_s_iinc (ls' := [some (.ref x0), some (.ref x1), some (.int x2), some (.ref x3), some (.int (x4 + 1)), l5]) am_cc1 rfl rfl dc96_9.1.1.1 ?_
    refine am_s_goto rfl dc96_9.1.1.2 ?_
    exact q1 c1
  · refine am_s_goto rfl dc96_8.2.2.2 ?_
    refine am_s_iinc (ls' := [some (.ref x0), some (.ref x1), some (.int (x2 + 1)), some (.ref x3), some (.int x4), l5]) am_cc1 rfl rfl dc96_9.1.2.1 ?_
    refine am_s_goto rfl dc96_9.1.2.2 ?_
    exact q2 c1
-- nameSigns (LPrunedParses$Rules;)V
theorem dc97_0 : (((decode (am_by 97) 0 = .ok (.aload_n 0, 1)) ∧ (decode (am_by 97) 1 = .ok (.getfield 31, 3))) ∧ ((decode (am_by 97) 4 = .ok (.invokevirtual 90, 3)) ∧ (decode (am_by 97) 7 = .ok (.iconst 0, 1)))) ∧ (((decode (am_by 97) 8 = .ok (.istore_n 2, 1)) ∧ (decode (am_by 97) 9 = .ok (.iload_n 2, 1))) ∧ ((decode (am_by 97) 10 = .ok (.aload_n 1, 1)) ∧ (decode (am_by 97) 11 = .ok (.getfield 62, 3)))) := by decide +kernel
theorem dc97_1 : (((decode (am_by 97) 14 = .ok (.iconst 3, 1)) ∧ (decode (am_by 97) 15 = .ok (.imul, 1))) ∧ ((decode (am_by 97) 16 = .ok (.if_icmp .ge 22, 3)) ∧ (decode (am_by 97) 19 = .ok (.aload_n 0, 1)))) ∧ (((decode (am_by 97) 20 = .ok (.getfield 31, 3)) ∧ (decode (am_by 97) 23 = .ok (.aload_n 1, 1))) ∧ ((decode (am_by 97) 24 = .ok (.getfield 130, 3)) ∧ (decode (am_by 97) 27 = .ok (.iload_n 2, 1)))) := by decide +kernel
theorem dc97_2 : (((decode (am_by 97) 28 = .ok (.iaload, 1)) ∧ (decode (am_by 97) 29 = .ok (.invokevirtual 126, 3))) ∧ ((decode (am_by 97) 32 = .ok (.iinc 2 1, 3)) ∧ (decode (am_by 97) 35 = .ok (.goto (-26), 3)))) ∧ (((decode (am_by 97) 38 = .ok (.iconst 0, 1)) ∧ (decode (am_by 97) 39 = .ok (.istore_n 2, 1))) ∧ ((decode (am_by 97) 40 = .ok (.iload_n 2, 1)) ∧ (decode (am_by 97) 41 = .ok (.aload_n 1, 1)))) := by decide +kernel
theorem dc97_3 : (((decode (am_by 97) 42 = .ok (.getfield 44, 3)) ∧ (decode (am_by 97) 45 = .ok (.if_icmp .ge 85, 3))) ∧ ((decode (am_by 97) 48 = .ok (.iload_n 2, 1)) ∧ (decode (am_by 97) 49 = .ok (.iconst 4, 1)))) ∧ (((decode (am_by 97) 50 = .ok (.imul, 1)) ∧ (decode (am_by 97) 51 = .ok (.istore_n 3, 1))) ∧ ((decode (am_by 97) 52 = .ok (.iload_n 3, 1)) ∧ (decode (am_by 97) 53 = .ok (.iload_n 2, 1)))) := by decide +kernel
theorem dc97_4 : (((decode (am_by 97) 54 = .ok (.iconst 4, 1)) ∧ (decode (am_by 97) 55 = .ok (.imul, 1))) ∧ ((decode (am_by 97) 56 = .ok (.aload_n 1, 1)) ∧ (decode (am_by 97) 57 = .ok (.getfield 50, 3)))) ∧ (((decode (am_by 97) 60 = .ok (.iload_n 2, 1)) ∧ (decode (am_by 97) 61 = .ok (.iaload, 1))) ∧ ((decode (am_by 97) 62 = .ok (.iadd, 1)) ∧ (decode (am_by 97) 63 = .ok (.if_icmp .ge 61, 3)))) := by decide +kernel
theorem dc97_5 : (((decode (am_by 97) 66 = .ok (.aload_n 1, 1)) ∧ (decode (am_by 97) 67 = .ok (.getfield 53, 3))) ∧ ((decode (am_by 97) 70 = .ok (.iload_n 3, 1)) ∧ (decode (am_by 97) 71 = .ok (.iaload, 1)))) ∧ (((decode (am_by 97) 72 = .ok (.iconst 2, 1)) ∧ (decode (am_by 97) 73 = .ok (.if_icmp .eq 6, 3))) ∧ ((decode (am_by 97) 76 = .ok (.goto 42, 3)) ∧ (decode (am_by 97) 79 = .ok (.iconst 0, 1)))) := by decide +kernel
theorem dc97_6 : (((decode (am_by 97) 80 = .ok (.istore 4, 2)) ∧ (decode (am_by 97) 82 = .ok (.iload 4, 2))) ∧ ((decode (am_by 97) 84 = .ok (.aload_n 1, 1)) ∧ (decode (am_by 97) 85 = .ok (.getfield 59, 3)))) ∧ (((decode (am_by 97) 88 = .ok (.iload_n 3, 1)) ∧ (decode (am_by 97) 89 = .ok (.iaload, 1))) ∧ ((decode (am_by 97) 90 = .ok (.if_icmp .ge 28, 3)) ∧ (decode (am_by 97) 93 = .ok (.aload_n 0, 1)))) := by decide +kernel
theorem dc97_7 : (((decode (am_by 97) 94 = .ok (.getfield 31, 3)) ∧ (decode (am_by 97) 97 = .ok (.aload_n 1, 1))) ∧ ((decode (am_by 97) 98 = .ok (.getfield 123, 3)) ∧ (decode (am_by 97) 101 = .ok (.iload_n 3, 1)))) ∧ (((decode (am_by 97) 102 = .ok (.bipush 8, 2)) ∧ (decode (am_by 97) 104 = .ok (.imul, 1))) ∧ ((decode (am_by 97) 105 = .ok (.iload 4, 2)) ∧ (decode (am_by 97) 107 = .ok (.iadd, 1)))) := by decide +kernel
theorem dc97_8 : (((decode (am_by 97) 108 = .ok (.iaload, 1)) ∧ (decode (am_by 97) 109 = .ok (.invokevirtual 126, 3))) ∧ ((decode (am_by 97) 112 = .ok (.iinc 4 1, 3)) ∧ (decode (am_by 97) 115 = .ok (.goto (-33), 3)))) ∧ (((decode (am_by 97) 118 = .ok (.iinc 3 1, 3)) ∧ (decode (am_by 97) 121 = .ok (.goto (-69), 3))) ∧ ((decode (am_by 97) 124 = .ok (.iinc 2 1, 3)) ∧ (decode (am_by 97) 127 = .ok (.goto (-87), 3)))) := by decide +kernel
theorem dc97_9 : decode (am_by 97) 130 = .ok (.return_, 1) := by decide +kernel
theorem t97_0 {sc : Option (Nat × (Nat → Int32))} {d k n : Nat} {P : am_O → Prop} {I : am_I} {J : am_J} {Pf : am_R} (hp : am_PF Pf) {x0 : Nat} (hx0 : am_SH[x0]? = some (.inl 7)) {x1 : Nat} (hx1 : am_SH[x1]? = some (.inl 4)) {l2 : Option Value} {l3 : Option Value} {l4 : Option Value} (q1 : am_mth d 75 [.ref (x0 + 6)] (am_SH, I, J, Pf) (am_af sc d 97 4 [some (.ref x0), some (.ref x1), l2, l3, l4] [.ref (x0 + 6)] [] (am_SH, I, J, Pf) k n false P)) : am_go sc d 97 (0, [some (.ref x0), some (.ref x1), l2, l3, l4], [], (am_SH, I, J, Pf), k, n) P := by
  refine am_s_aload_n rfl dc97_0.1.1.1 ?_
  refine am_s_getR (r := x0 + 6) dc97_0.1.1.2 rfl hx0 rfl (am_r7_7 hp hx0) ?_
  exact am_s_virtual false dc97_0.1.2.1 rfl (by decide) rfl (am_h7_7 hx0) rfl (q1)
theorem t97_9 {sc : Option (Nat × (Nat → Int32))} {d k n : Nat} {P : am_O → Prop} {I : am_I} {J : am_J} {Pf : am_R} (hp : am_PF Pf) {x0 : Nat} (hx0 : am_SH[x0]? = some (.inl 7)) {x1 : Nat} (hx1 : am_SH[x1]? = some (.inl 4)) {x2 : Int32} {l3 : Option Value} {l4 : Option Value} (q1 : (((I x1 9) * 3) ≤ x2) → am_go sc d 97 (40, [some (.ref x0), some (.ref x1), some (.int 0), l3, l4], [], (am_SH, I, J, Pf), k, n) P) (q2 : (¬ (((I x1 9) * 3) ≤ x2)) → am_in x2 12 = true) (q3 : (¬ (((I x1 9) * 3) ≤ x2)) → am_mth d 77 [.ref (x0 + 6), .int (I (x1 + 10) (Int32.toNatClampNeg x2))] (am_SH, I, J, Pf) (am_af sc d 97 29 [some (.ref x0), some (.ref x1), some (.int x2), l3, l4] [.int (I (x1 + 10) (Int32.toNatClampNeg x2)), .ref (x0 + 6)] [] (am_SH, I, J, Pf) k n false P)) : am_go sc d 97 (9, [some (.ref x0), some (.ref x1), some (.int x2), l3, l4], [], (am_SH, I, J, Pf), k, n) P := by
  refine am_s_iload_n rfl dc97_0.2.1.2 ?_
  refine am_s_aload_n rfl dc97_0.2.2.1 ?_
  refine am_x_getI (x := I x1 9) dc97_0.2.2.2 rfl hx1 (Or.inl rfl) rfl ?_
  refine am_s_iconst am_cc3 dc97_1.1.1.1 ?_
  refine am_s_imul dc97_1.1.1.2 ?_
  refine am_s_ic_ge dc97_1.1.2.1 rfl (fun c1 => ?_) (fun c1 => ?_)
  · refine am_s_iconst am_cc0 dc97_2.2.1.1 ?_
    refine am_s_istore_n (ls' := [some (.ref x0), some (.ref x1), some (.int 0), l3, l4]) rfl rfl dc97_2.2.1.2 ?_
    exact q1 c1
  · refine am_s_aload_n rfl dc97_1.1.2.2 ?_
    refine am_s_getR (r := x0 + 6) dc97_1.2.1.1 rfl hx0 rfl (am_r7_7 hp hx0) ?_
    refine am_s_aload_n rfl dc97_1.2.1.2 ?_
    refine am_s_getR (r := x1 + 10) dc97_1.2.2.1 rfl hx1 rfl (am_r4_12 hp hx1) ?_
    refine am_s_iload_n rfl dc97_1.2.2.2 ?_
    refine am_x_iaload (x := I (x1 + 10) (Int32.toNatClampNeg x2)) dc97_2.1.1.1 (am_h4_12 hx1) (q2 c1) rfl rfl ?_
    exact am_s_virtual false dc97_2.1.1.2 rfl (by decide) rfl (am_h7_7 hx0) rfl (q3 c1)
theorem t97_40 {sc : Option (Nat × (Nat → Int32))} {d k n : Nat} {P : am_O → Prop} {I : am_I} {J : am_J} {Pf : am_R} (hp : am_PF Pf) {x0 : Nat} (hx0 : am_SH[x0]? = some (.inl 7)) {x1 : Nat} (hx1 : am_SH[x1]? = some (.inl 4)) {x2 : Int32} {l3 : Option Value} {l4 : Option Value} (q1 : ((I x1 2) ≤ x2) → P (.inl none, (am_SH, I, J, Pf), k, n)) (q2 : (¬ ((I x1 2) ≤ x2)) → am_go sc d 97 (52, [some (.ref x0), some (.ref x1), some (.int x2), some (.int (x2 * 4)), l4], [], (am_SH, I, J, Pf), k, n) P) : am_go sc d 97 (40, [some (.ref x0), some (.ref x1), some (.int x2), l3, l4], [], (am_SH, I, J, Pf), k, n) P := by
  refine am_s_iload_n rfl dc97_2.2.2.1 ?_
  refine am_s_aload_n rfl dc97_2.2.2.2 ?_
  refine am_x_getI (x := I x1 2) dc97_3.1.1.1 rfl hx1 (Or.inl rfl) rfl ?_
  refine am_s_ic_ge dc97_3.1.1.2 rfl (fun c1 => ?_) (fun c1 => ?_)
  · exact am_s_return dc97_9 rfl (q1 c1)
  · refine am_s_iload_n rfl dc97_3.1.2.1 ?_
    refine am_s_iconst am_cc4 dc97_3.1.2.2 ?_
    refine am_s_imul dc97_3.2.1.1 ?_
    refine am_s_istore_n (ls' := [some (.ref x0), some (.ref x1), some (.int x2), some (.int (x2 * 4)), l4]) rfl rfl dc97_3.2.1.2 ?_
    exact q2 c1
theorem t97_52 {sc : Option (Nat × (Nat → Int32))} {d k n : Nat} {P : am_O → Prop} {I : am_I} {J : am_J} {Pf : am_R} (hp : am_PF Pf) {x0 : Nat} (hx0 : am_SH[x0]? = some (.inl 7)) {x1 : Nat} (hx1 : am_SH[x1]? = some (.inl 4)) {x2 : Int32} {x3 : Int32} {l4 : Option Value} (q1 : am_in x2 20 = true) (q2 : (((x2 * 4) + (I (x1 + 4) (Int32.toNatClampNeg x2))) ≤ x3) → am_go sc d 97 (40, [some (.ref x0), some (.ref x1), some (.int (x2 + 1)), some (.int x3), l4], [], (am_SH, I, J, Pf), k, n) P) (q3 : (¬ (((x2 * 4) + (I (x1 + 4) (Int32.toNatClampNeg x2))) ≤ x3)) → am_in x3 80 = true) (q4 : (¬ (((x2 * 4) + (I (x1 + 4) (Int32.toNatClampNeg x2))) ≤ x3)) → ((I (x1 + 5) (Int32.toNatClampNeg x3)) = 2) → am_go sc d 97 (82, [some (.ref x0), some (.ref x1), some (.int x2), some (.int x3), some (.int 0)], [], (am_SH, I, J, Pf), k, n) P) (q5 : (¬ (((x2 * 4) + (I (x1 + 4) (Int32.toNatClampNeg x2))) ≤ x3)) → (¬ ((I (x1 + 5) (Int32.toNatClampNeg x3)) = 2)) → am_go sc d 97 (52, [some (.ref x0), some (.ref x1), some (.int x2), some (.int (x3 + 1)), l4], [], (am_SH, I, J, Pf), k, n) P) : am_go sc d 97 (52, [some (.ref x0), some (.ref x1), some (.int x2), some (.int x3), l4], [], (am_SH, I, J, Pf), k, n) P := by
  refine am_s_iload_n rfl dc97_3.2.2.1 ?_
  refine am_s_iload_n rfl dc97_3.2.2.2 ?_
  refine am_s_iconst am_cc4 dc97_4.1.1.1 ?_
  refine am_s_imul dc97_4.1.1.2 ?_
  refine am_s_aload_n rfl dc97_4.1.2.1 ?_
  refine am_s_getR (r := x1 + 4) dc97_4.1.2.2 rfl hx1 rfl (am_r4_5 hp hx1) ?_
  refine am_s_iload_n rfl dc97_4.2.1.1 ?_
  refine am_x_iaload (x := I (x1 + 4) (Int32.toNatClampNeg x2)) dc97_4.2.1.2 (am_h4_5 hx1) (q1) rfl rfl ?_
  refine am_s_iadd dc97_4.2.2.1 ?_
  refine am_s_ic_ge dc97_4.2.2.2 rfl (fun c1 => ?_) (fun c1 => ?_)
  · refine am_s_iinc (ls' := [some (.ref x0), some (.ref x1), some (.int (x2 + 1)), some (.int x3), l4]) am_cc1 rfl rfl dc97_8.2.2.1 ?_
    refine am_s_goto rfl dc97_8.2.2.2 ?_
    exact q2 c1
  · refine am_s_aload_n rfl dc97_5.1.1.1 ?_
    refine am_s_getR (r := x1 + 5) dc97_5.1.1.2 rfl hx1 rfl (am_r4_6 hp hx1) ?_
    refine am_s_iload_n rfl dc97_5.1.2.1 ?_
    refine am_x_iaload (x := I (x1 + 5) (Int32.toNatClampNeg x3)) dc97_5.1.2.2 (am_h4_6 hx1) (q3 c1) rfl rfl ?_
    refine am_s_iconst am_cc2 dc97_5.2.1.1 ?_
    refine am_s_ic_eq dc97_5.2.1.2 rfl (fun c2 => ?_) (fun c2 => ?_)
    · refine am_s_iconst am_cc0 dc97_5.2.2.2 ?_
      refine am_s_istore (ls' := [some (.ref x0), some (.ref x1), some (.int x2), some (.int x3), some (.int 0)]) rfl rfl dc97_6.1.1.1 ?_
      exact q4 c1 c2
    · refine am_s_goto rfl dc97_5.2.2.1 ?_
      refine am_s_iinc (ls' := [some (.ref x0), some (.ref x1), some (.int x2), some (.int (x3 + 1)), l4]) am_cc1 rfl rfl dc97_8.2.1.1 ?_
      refine am_s_goto rfl dc97_8.2.1.2 ?_
      exact q5 c1 c2
theorem t97_82 {sc : Option (Nat × (Nat → Int32))} {d k n : Nat} {P : am_O → Prop} {I : am_I} {J : am_J} {Pf : am_R} (hp : am_PF Pf) {x0 : Nat} (hx0 : am_SH[x0]? = some (.inl 7)) {x1 : Nat} (hx1 : am_SH[x1]? = some (.inl 4)) {x2 : Int32} {x3 : Int32} {x4 : Int32} (q1 : am_in x3 80 = true) (q2 : ((I (x1 + 6) (Int32.toNatClampNeg x3)) ≤ x4) → am_go sc d 97 (52, [some (.ref x0), some (.ref x1), some (.int x2), some (.int (x3 + 1)), some (.int x4)], [], (am_SH, I, J, Pf), k, n) P) (q3 : (¬ ((I (x1 + 6) (Int32.toNatClampNeg x3)) ≤ x4)) → am_in ((x3 * 8) + x4) 640 = true) (q4 : (¬ ((I (x1 + 6) (Int32.toNatClampNeg x3)) ≤ x4)) → am_mth d 77 [.ref (x0 + 6), .int (I (x1 + 7) (Int32.toNatClampNeg ((x3 * 8) + x4)))] (am_SH, I, J, Pf) (am_af sc d 97 109 [some (.ref x0), some (.ref x1), some (.int x2), some (.int x3), some (.int x4)] [.int (I (x1 + 7) (Int32.toNatClampNeg ((x3 * 8) + x4))), .ref (x0 + 6)] [] (am_SH, I, J, Pf) k n false P)) : am_go sc d 97 (82, [some (.ref x0), some (.ref x1), some (.int x2), some (.int x3), some (.int x4)], [], (am_SH, I, J, Pf), k, n) P := by
  refine am_s_iload rfl dc97_6.1.1.2 ?_
  refine am_s_aload_n rfl dc97_6.1.2.1 ?_
  refine am_s_getR (r := x1 + 6) dc97_6.1.2.2 rfl hx1 rfl (am_r4_7 hp hx1) ?_
  refine am_s_iload_n rfl dc97_6.2.1.1 ?_
  refine am_x_iaload (x := I (x1 + 6) (Int32.toNatClampNeg x3)) dc97_6.2.1.2 (am_h4_7 hx1) (q1) rfl rfl ?_
  refine am_s_ic_ge dc97_6.2.2.1 rfl (fun c1 => ?_) (fun c1 => ?_)
  · refine am_s_iinc (ls' := [some (.ref x0), some (.ref x1), some (.int x2), some (.int (x3 + 1)), some (.int x4)]) am_cc1 rfl rfl dc97_8.2.1.1 ?_
    refine am_s_goto rfl dc97_8.2.1.2 ?_
    exact q2 c1
  · refine am_s_aload_n rfl dc97_6.2.2.2 ?_
    refine am_s_getR (r := x0 + 6) dc97_7.1.1.1 rfl hx0 rfl (am_r7_7 hp hx0) ?_
    refine am_s_aload_n rfl dc97_7.1.1.2 ?_
    refine am_s_getR (r := x1 + 7) dc97_7.1.2.1 rfl hx1 rfl (am_r4_8 hp hx1) ?_
    refine am_s_iload_n rfl dc97_7.1.2.2 ?_
    refine am_s_bipush am_cb8 dc97_7.2.1.1 ?_
    refine am_s_imul dc97_7.2.1.2 ?_
    refine am_s_iload rfl dc97_7.2.2.1 ?_
    refine am_s_iadd dc97_7.2.2.2 ?_
    refine am_x_iaload (x := I (x1 + 7) (Int32.toNatClampNeg ((x3 * 8) + x4))) dc97_8.1.1.1 (am_h4_8 hx1) (q3 c1) rfl rfl ?_
    exact am_s_virtual false dc97_8.1.1.2 rfl (by decide) rfl (am_h7_7 hx0) rfl (q4 c1)
theorem t97_7 {sc : Option (Nat × (Nat → Int32))} {d k n : Nat} {P : am_O → Prop} {I : am_I} {J : am_J} {Pf : am_R} (hp : am_PF Pf) {x0 : Nat} (hx0 : am_SH[x0]? = some (.inl 7)) {x1 : Nat} (hx1 : am_SH[x1]? = some (.inl 4)) {l2 : Option Value} {l3 : Option Value} {l4 : Option Value} (q1 : am_go sc d 97 (9, [some (.ref x0), some (.ref x1), some (.int 0), l3, l4], [], (am_SH, I, J, Pf), k, n) P) : am_go sc d 97 (7, [some (.ref x0), some (.ref x1), l2, l3, l4], [], (am_SH, I, J, Pf), k, n) P := by
  refine am_s_iconst am_cc0 dc97_0.1.2.2 ?_
  refine am_s_istore_n (ls' := [some (.ref x0), some (.ref x1), some (.int 0), l3, l4]) rfl rfl dc97_0.2.1.1 ?_
  exact q1
theorem t97_32 {sc : Option (Nat × (Nat → Int32))} {d k n : Nat} {P : am_O → Prop} {I : am_I} {J : am_J} {Pf : am_R} (hp : am_PF Pf) {x0 : Nat} (hx0 : am_SH[x0]? = some (.inl 7)) {x1 : Nat} (hx1 : am_SH[x1]? = some (.inl 4)) {x2 : Int32} {l3 : Option Value} {l4 : Option Value} (q1 : am_go sc d 97 (9, [some (.ref x0), some (.ref x1), some (.int (x2 + 1)), l3, l4], [], (am_SH, I, J, Pf), k, n) P) : am_go sc d 97 (32, [some (.ref x0), some (.ref x1), some (.int x2), l3, l4], [], (am_SH, I, J, Pf), k, n) P := by
  refine am_s_iinc (ls' := [some (.ref x0), some (.ref x1), some (.int (x2 + 1)), l3, l4]) am_cc1 rfl rfl dc97_2.1.2.1 ?_
  refine am_s_goto rfl dc97_2.1.2.2 ?_
  exact q1
theorem t97_112 {sc : Option (Nat × (Nat → Int32))} {d k n : Nat} {P : am_O → Prop} {I : am_I} {J : am_J} {Pf : am_R} (hp : am_PF Pf) {x0 : Nat} (hx0 : am_SH[x0]? = some (.inl 7)) {x1 : Nat} (hx1 : am_SH[x1]? = some (.inl 4)) {x2 : Int32} {x3 : Int32} {x4 : Int32} (q1 : am_go sc d 97 (82, [some (.ref x0), some (.ref x1), some (.int x2), some (.int x3), some (.int (x4 + 1))], [], (am_SH, I, J, Pf), k, n) P) : am_go sc d 97 (112, [some (.ref x0), some (.ref x1), some (.int x2), some (.int x3), some (.int x4)], [], (am_SH, I, J, Pf), k, n) P := by
  refine am_s_iinc (ls' := [some (.ref x0), some (.ref x1), some (.int x2), some (.int x3), some (.int (x4 + 1))]) am_cc1 rfl rfl dc97_8.1.2.1 ?_
  refine am_s_goto rfl dc97_8.1.2.2 ?_
  exact q1
-- twinOf (I)I
theorem dc98_0 : (((decode (am_by 98) 0 = .ok (.iload_n 1, 1)) ∧ (decode (am_by 98) 1 = .ok (.invokestatic 133, 3))) ∧ ((decode (am_by 98) 4 = .ok (.ifCond .eq 14, 3)) ∧ (decode (am_by 98) 7 = .ok (.aload_n 0, 1)))) ∧ (((decode (am_by 98) 8 = .ok (.getfield 31, 3)) ∧ (decode (am_by 98) 11 = .ok (.iload_n 1, 1))) ∧ ((decode (am_by 98) 12 = .ok (.invokevirtual 137, 3)) ∧ (decode (am_by 98) 15 = .ok (.ifCond .eq 5, 3)))) := by decide +kernel
theorem dc98_1 : (((decode (am_by 98) 18 = .ok (.iload_n 1, 1)) ∧ (decode (am_by 98) 19 = .ok (.ireturn, 1))) ∧ ((decode (am_by 98) 20 = .ok (.bipush 32, 2)) ∧ (decode (am_by 98) 22 = .ok (.istore_n 2, 1)))) ∧ (((decode (am_by 98) 23 = .ok (.iload_n 2, 1)) ∧ (decode (am_by 98) 24 = .ok (.iload_n 1, 1))) ∧ ((decode (am_by 98) 25 = .ok (.if_icmp .ge 37, 3)) ∧ (decode (am_by 98) 28 = .ok (.aload_n 0, 1)))) := by decide +kernel
theorem dc98_2 : (((decode (am_by 98) 29 = .ok (.getfield 35, 3)) ∧ (decode (am_by 98) 32 = .ok (.iload_n 2, 1))) ∧ ((decode (am_by 98) 33 = .ok (.iaload, 1)) ∧ (decode (am_by 98) 34 = .ok (.aload_n 0, 1)))) ∧ (((decode (am_by 98) 35 = .ok (.getfield 35, 3)) ∧ (decode (am_by 98) 38 = .ok (.iload_n 1, 1))) ∧ ((decode (am_by 98) 39 = .ok (.iaload, 1)) ∧ (decode (am_by 98) 40 = .ok (.if_icmp .ne 16, 3)))) := by decide +kernel
theorem dc98_3 : (((decode (am_by 98) 43 = .ok (.aload_n 0, 1)) ∧ (decode (am_by 98) 44 = .ok (.getfield 31, 3))) ∧ ((decode (am_by 98) 47 = .ok (.iload_n 2, 1)) ∧ (decode (am_by 98) 48 = .ok (.invokevirtual 137, 3)))) ∧ (((decode (am_by 98) 51 = .ok (.ifCond .ne 5, 3)) ∧ (decode (am_by 98) 54 = .ok (.iload_n 2, 1))) ∧ ((decode (am_by 98) 55 = .ok (.ireturn, 1)) ∧ (decode (am_by 98) 56 = .ok (.iinc 2 1, 3)))) := by decide +kernel
theorem dc98_4 : (decode (am_by 98) 59 = .ok (.goto (-36), 3)) ∧ ((decode (am_by 98) 62 = .ok (.iload_n 1, 1)) ∧ (decode (am_by 98) 63 = .ok (.ireturn, 1))) := by decide +kernel
theorem t98_0 {sc : Option (Nat × (Nat → Int32))} {d k n : Nat} {P : am_O → Prop} {I : am_I} {J : am_J} {Pf : am_R} (hp : am_PF Pf) {x0 : Nat} (hx0 : am_SH[x0]? = some (.inl 7)) {x1 : Int32} {l2 : Option Value} (q1 : am_mth d 185 [.int x1] (am_SH, I, J, Pf) (am_af sc d 98 1 [some (.ref x0), some (.int x1), l2] [.int x1] [] (am_SH, I, J, Pf) k n false P)) : am_go sc d 98 (0, [some (.ref x0), some (.int x1), l2], [], (am_SH, I, J, Pf), k, n) P := by
  refine am_s_iload_n rfl dc98_0.1.1.1 ?_
  exact am_s_static dc98_0.1.1.2 rfl rfl rfl (q1)
theorem t98_23 {sc : Option (Nat × (Nat → Int32))} {d k n : Nat} {P : am_O → Prop} {I : am_I} {J : am_J} {Pf : am_R} (hp : am_PF Pf) {x0 : Nat} (hx0 : am_SH[x0]? = some (.inl 7)) {x1 : Int32} {x2 : Int32} (q1 : (x1 ≤ x2) → P (.inl (some (.int x1)), (am_SH, I, J, Pf), k, n)) (q2 : (¬ (x1 ≤ x2)) → am_in x2 127 = true) (q3 : (¬ (x1 ≤ x2)) → am_in x1 127 = true) (q4 : (¬ (x1 ≤ x2)) → (¬ (I (x0 + 7) (Int32.toNatClampNeg x2)) = (I (x0 + 7) (Int32.toNatClampNeg x1))) → am_go sc d 98 (23, [some (.ref x0), some (.int x1), some (.int (x2 + 1))], [], (am_SH, I, J, Pf), k, n) P) (q5 : (¬ (x1 ≤ x2)) → (¬ (¬ (I (x0 + 7) (Int32.toNatClampNeg x2)) = (I (x0 + 7) (Int32.toNatClampNeg x1)))) → am_mth d 78 [.ref (x0 + 6), .int x2] (am_SH, I, J, Pf) (am_af sc d 98 48 [some (.ref x0), some (.int x1), some (.int x2)] [.int x2, .ref (x0 + 6)] [] (am_SH, I, J, Pf) k n false P)) : am_go sc d 98 (23, [some (.ref x0), some (.int x1), some (.int x2)], [], (am_SH, I, J, Pf), k, n) P := by
  refine am_s_iload_n rfl dc98_1.2.1.1 ?_
  refine am_s_iload_n rfl dc98_1.2.1.2 ?_
  refine am_s_ic_ge dc98_1.2.2.1 rfl (fun c1 => ?_) (fun c1 => ?_)
  · refine am_s_iload_n rfl dc98_4.2.1 ?_
    exact am_s_ireturn dc98_4.2.2 rfl (q1 c1)
  · refine am_s_aload_n rfl dc98_1.2.2.2 ?_
    refine am_s_getR (r := x0 + 7) dc98_2.1.1.1 rfl hx0 rfl (am_r7_8 hp hx0) ?_
    refine am_s_iload_n rfl dc98_2.1.1.2 ?_
    refine am_x_iaload (x := I (x0 + 7) (Int32.toNatClampNeg x2)) dc98_2.1.2.1 (am_h7_8 hx0) (q2 c1) rfl rfl ?_
    refine am_s_aload_n rfl dc98_2.1.2.2 ?_
    refine am_s_getR (r := x0 + 7) dc98_2.2.1.1 rfl hx0 rfl (am_r7_8 hp hx0) ?_
    refine am_s_iload_n rfl dc98_2.2.1.2 ?_
    refine am_x_iaload (x := I (x0 + 7) (Int32.toNatClampNeg x1)) dc98_2.2.2.1 (am_h7_8 hx0) (q3 c1) rfl rfl ?_
    refine am_s_ic_ne dc98_2.2.2.2 rfl (fun c2 => ?_) (fun c2 => ?_)
    · refine am_s_iinc (ls' := [some (.ref x0), some (.int x1), some (.int (x2 + 1))]) am_cc1 rfl rfl dc98_3.2.2.2 ?_
      refine am_s_goto rfl dc98_4.1 ?_
      exact q4 c1 c2
    · refine am_s_aload_n rfl dc98_3.1.1.1 ?_
      refine am_s_getR (r := x0 + 6) dc98_3.1.1.2 rfl hx0 rfl (am_r7_7 hp hx0) ?_
      refine am_s_iload_n rfl dc98_3.1.2.1 ?_
      exact am_s_virtual false dc98_3.1.2.2 rfl (by decide) rfl (am_h7_7 hx0) rfl (q5 c1 c2)
theorem t98_4 {sc : Option (Nat × (Nat → Int32))} {d k n : Nat} {P : am_O → Prop} {I : am_I} {J : am_J} {Pf : am_R} (hp : am_PF Pf) {x0 : Nat} (hx0 : am_SH[x0]? = some (.inl 7)) {x1 : Int32} {l2 : Option Value} {s0 : Int32} (q1 : (s0 = 0) → P (.inl (some (.int x1)), (am_SH, I, J, Pf), k, n)) (q2 : (¬ (s0 = 0)) → am_mth d 78 [.ref (x0 + 6), .int x1] (am_SH, I, J, Pf) (am_af sc d 98 12 [some (.ref x0), some (.int x1), l2] [.int x1, .ref (x0 + 6)] [] (am_SH, I, J, Pf) k n false P)) : am_go sc d 98 (4, [some (.ref x0), some (.int x1), l2], [.int s0], (am_SH, I, J, Pf), k, n) P := by
  refine am_s_if_eq dc98_0.1.2.1 rfl (fun c1 => ?_) (fun c1 => ?_)
  · refine am_s_iload_n rfl dc98_1.1.1.1 ?_
    exact am_s_ireturn dc98_1.1.1.2 rfl (q1 c1)
  · refine am_s_aload_n rfl dc98_0.1.2.2 ?_
    refine am_s_getR (r := x0 + 6) dc98_0.2.1.1 rfl hx0 rfl (am_r7_7 hp hx0) ?_
    refine am_s_iload_n rfl dc98_0.2.1.2 ?_
    exact am_s_virtual false dc98_0.2.2.1 rfl (by decide) rfl (am_h7_7 hx0) rfl (q2 c1)
theorem t98_51 {sc : Option (Nat × (Nat → Int32))} {d k n : Nat} {P : am_O → Prop} {I : am_I} {J : am_J} {Pf : am_R} (hp : am_PF Pf) {x0 : Nat} (hx0 : am_SH[x0]? = some (.inl 7)) {x1 : Int32} {x2 : Int32} {s0 : Int32} (q1 : (¬ s0 = 0) → am_go sc d 98 (23, [some (.ref x0), some (.int x1), some (.int (x2 + 1))], [], (am_SH, I, J, Pf), k, n) P) (q2 : (¬ (¬ s0 = 0)) → P (.inl (some (.int x2)), (am_SH, I, J, Pf), k, n)) : am_go sc d 98 (51, [some (.ref x0), some (.int x1), some (.int x2)], [.int s0], (am_SH, I, J, Pf), k, n) P := by
  refine am_s_if_ne dc98_3.2.1.1 rfl (fun c1 => ?_) (fun c1 => ?_)
  · refine am_s_iinc (ls' := [some (.ref x0), some (.int x1), some (.int (x2 + 1))]) am_cc1 rfl rfl dc98_3.2.2.2 ?_
    refine am_s_goto rfl dc98_4.1 ?_
    exact q1 c1
  · refine am_s_iload_n rfl dc98_3.2.1.2 ?_
    exact am_s_ireturn dc98_3.2.2.1 rfl (q2 c1)
theorem t98_15 {sc : Option (Nat × (Nat → Int32))} {d k n : Nat} {P : am_O → Prop} {I : am_I} {J : am_J} {Pf : am_R} (hp : am_PF Pf) {x0 : Nat} (hx0 : am_SH[x0]? = some (.inl 7)) {x1 : Int32} {l2 : Option Value} {s0 : Int32} (q1 : (s0 = 0) → am_go sc d 98 (23, [some (.ref x0), some (.int x1), some (.int 32)], [], (am_SH, I, J, Pf), k, n) P) (q2 : (¬ (s0 = 0)) → P (.inl (some (.int x1)), (am_SH, I, J, Pf), k, n)) : am_go sc d 98 (15, [some (.ref x0), some (.int x1), l2], [.int s0], (am_SH, I, J, Pf), k, n) P := by
  refine am_s_if_eq dc98_0.2.2.2 rfl (fun c1 => ?_) (fun c1 => ?_)
  · refine am_s_bipush am_cb32 dc98_1.1.2.1 ?_
    refine am_s_istore_n (ls' := [some (.ref x0), some (.int x1), some (.int 32)]) rfl rfl dc98_1.1.2.2 ?_
    exact q1 c1
  · refine am_s_iload_n rfl dc98_1.1.1.1 ?_
    exact am_s_ireturn dc98_1.1.1.2 rfl (q2 c1)
