/-! Walks, from behind copies of rows -/
theorem v109_25 {sc : Option (Nat × (Nat → Int32))} {d k n : Nat} {P : am_O → Prop} {I : am_I} {J : am_J} {Pf : am_R} (hp : am_PF Pf) {l0 : Option Value} {l1 : Option Value} (q : (P (.inl none, (am_SH, I, J, Pf), k, n))) : am_go sc d 109 (25, [l0, l1], [], (am_SH, I, J, Pf), k, n) P := by
  exact am_s_return dc109_1.2.2.2 rfl (q)
theorem v125_193 {sc : Option (Nat × (Nat → Int32))} {d k n : Nat} {P : am_O → Prop} {I : am_I} {J : am_J} {Pf : am_R} (hp : am_PF Pf) {x1 : Int32} {x2 : Int32} {x3 : Int32} {x4 : Nat} (hx4 : am_SH[x4]? = some (.inl 4)) {x5 : Int32} {l6 : Option Value} {l7 : Option Value} {l8 : Option Value} {l9 : Option Value} (q : (am_go sc d 125 (27, [some (.ref 145), some (.int x1), some (.int x2), some (.int x3), some (.ref x4), some (.int (x5 + 1)), l6, l7, l8, l9], [], (am_SH, I, J, Pf), k, n) P)) : am_go sc d 125 (193, [some (.ref 145), some (.int x1), some (.int x2), some (.int x3), some (.ref x4), some (.int x5), l6, l7, l8, l9], [], (am_SH, I, J, Pf), k, n) P := by
  refine am_s_iinc (ls' := [some (.ref 145), some (.int x1), some (.int x2), some (.int x3), some (.ref x4), some (.int (x5 + 1)), l6, l7, l8, l9]) am_cc1 rfl rfl dc125_12.2.1.1 ?_
  refine am_s_goto rfl dc125_12.2.1.2 ?_
  exact q
theorem v71_31 {sc : Option (Nat × (Nat → Int32))} {d k n : Nat} {P : am_O → Prop} {I : am_I} {J : am_J} {Pf : am_R} (hp : am_PF Pf) {x0 : Nat} (hx0 : am_SH[x0]? = some (.inl 5)) {x1 : Nat} (hx1 : am_SH[x1]? = some (.inl 9)) (q : (am_in (I x0 2) 17 = true) ∧ (P (.inl none, (am_SH, am_u (am_u I (x0 + 2) (Int32.toNatClampNeg (I x0 2)) (I x1 1)) x0 2 (((am_u I (x0 + 2) (Int32.toNatClampNeg (I x0 2)) (I x1 1)) x0 2) + 1), J, Pf), k, n))) : am_go sc d 71 (31, [some (.ref x0), some (.ref x1)], [], (am_SH, I, J, Pf), k, n) P := by
  refine am_s_aload_n rfl dc71_2.1.1.1 ?_
  refine am_s_getR (r := x0 + 2) dc71_2.1.1.2 rfl hx0 rfl (am_r5_1 hp hx0) ?_
  refine am_s_aload_n rfl dc71_2.1.2.1 ?_
  refine am_x_getI (x := I x0 2) dc71_2.1.2.2 rfl hx0 (Or.inl rfl) rfl ?_
  refine am_s_aload_n rfl dc71_2.2.1.1 ?_
  refine am_x_getI (x := I x1 1) dc71_2.2.1.2 rfl hx1 (Or.inl rfl) rfl ?_
  refine am_s_iastore dc71_2.2.2.1 (am_h5_1 hx0) (q.1) rfl ?_
  refine am_s_aload_n rfl dc71_2.2.2.2 ?_
  refine am_s_dup rfl dc71_3.1.1 ?_
  refine am_x_getI (x := (am_u I (x0 + 2) (Int32.toNatClampNeg (I x0 2)) (I x1 1)) x0 2) dc71_3.1.2.1 rfl hx0 (Or.inl rfl) rfl ?_
  refine am_s_iconst am_cc1 dc71_3.1.2.2 ?_
  refine am_s_iadd dc71_3.2.1 ?_
  refine am_s_putI dc71_3.2.2.1 rfl hx0 rfl rfl ?_
  exact am_s_return dc71_3.2.2.2 rfl (q.2)
theorem v72_40 {sc : Option (Nat × (Nat → Int32))} {d k n : Nat} {P : am_O → Prop} {I : am_I} {J : am_J} {Pf : am_R} (hp : am_PF Pf) {x0 : Nat} (hx0 : am_SH[x0]? = some (.inl 5)) {x1 : Nat} (hx1 : am_SH[x1]? = some (.inl 9)) (q : (am_in (I x0 2) 17 = true) ∧ (P (.inl none, (am_SH, am_u I x1 1 (I (x0 + 2) (Int32.toNatClampNeg (I x0 2))), J, Pf), k, n))) : am_go sc d 72 (40, [some (.ref x0), some (.ref x1)], [], (am_SH, I, J, Pf), k, n) P := by
  refine am_s_aload_n rfl dc72_2.2.2.1 ?_
  refine am_s_aload_n rfl dc72_2.2.2.2 ?_
  refine am_s_getR (r := x0 + 2) dc72_3.1.1 rfl hx0 rfl (am_r5_1 hp hx0) ?_
  refine am_s_aload_n rfl dc72_3.1.2.1 ?_
  refine am_x_getI (x := I x0 2) dc72_3.1.2.2 rfl hx0 (Or.inl rfl) rfl ?_
  refine am_x_iaload (x := I (x0 + 2) (Int32.toNatClampNeg (I x0 2))) dc72_3.2.1 (am_h5_1 hx0) (q.1) rfl rfl ?_
  refine am_s_putI dc72_3.2.2.1 rfl hx1 rfl rfl ?_
  exact am_s_return dc72_3.2.2.2 rfl (q.2)
theorem v73_18 {sc : Option (Nat × (Nat → Int32))} {d k n : Nat} {P : am_O → Prop} {I : am_I} {J : am_J} {Pf : am_R} (hp : am_PF Pf) {x0 : Nat} (hx0 : am_SH[x0]? = some (.inl 5)) {x1 : Nat} (hx1 : am_SH[x1]? = some (.inl 5)) (q : (am_go sc d 73 (30, [some (.ref x0), some (.ref x1)], [.int 17, .int 0, .ref (x0 + 2), .int 0, .ref (x1 + 2)], (am_SH, I, J, Pf), k, n) P)) : am_go sc d 73 (18, [some (.ref x0), some (.ref x1)], [], (am_SH, I, J, Pf), k, n) P := by
  refine am_s_aload_n rfl dc73_1.1.2.1 ?_
  refine am_s_getR (r := x1 + 2) dc73_1.1.2.2 rfl hx1 rfl (am_r5_1 hp hx1) ?_
  refine am_s_iconst am_cc0 dc73_1.2.1.1 ?_
  refine am_s_aload_n rfl dc73_1.2.1.2 ?_
  refine am_s_getR (r := x0 + 2) dc73_1.2.2.1 rfl hx0 rfl (am_r5_1 hp hx0) ?_
  refine am_s_iconst am_cc0 dc73_1.2.2.2 ?_
  refine am_s_bipush am_cb17 dc73_2.1.1 ?_
  exact q
theorem v73_33 {sc : Option (Nat × (Nat → Int32))} {d k n : Nat} {P : am_O → Prop} {I : am_I} {J : am_J} {Pf : am_R} (hp : am_PF Pf) {x0 : Nat} (hx0 : am_SH[x0]? = some (.inl 5)) {x1 : Nat} (hx1 : am_SH[x1]? = some (.inl 5)) (q : (P (.inl none, (am_SH, am_u I x0 2 (I x1 2), J, Pf), k, n))) : am_go sc d 73 (33, [some (.ref x0), some (.ref x1)], [], (am_SH, I, J, Pf), k, n) P := by
  refine am_s_aload_n rfl dc73_2.1.2.2 ?_
  refine am_s_aload_n rfl dc73_2.2.1.1 ?_
  refine am_x_getI (x := I x1 2) dc73_2.2.1.2 rfl hx1 (Or.inl rfl) rfl ?_
  refine am_s_putI dc73_2.2.2.1 rfl hx0 rfl rfl ?_
  exact am_s_return dc73_2.2.2.2 rfl (q)
/-- a row copied into another -/
def cpI (I : am_I) (a1 a0 sp dp L : Nat) : am_I := am_cp I a1 (va_cpy (I a0) (I a1) sp dp L)
theorem cpI_in {I : am_I} {a1 a0 sp dp L k : Nat} (h1 : dp ≤ k) (h2 : k < dp + L) : cpI I a1 a0 sp dp L a1 k = I a0 (sp + (k - dp)) := by
  unfold cpI am_cp va_cpy
  rw [if_pos rfl, if_pos ⟨h1, h2⟩]
theorem cpI_out {I : am_I} {a1 a0 sp dp L o k : Nat} (h : ¬ (o = a1 ∧ dp ≤ k ∧ k < dp + L)) : cpI I a1 a0 sp dp L o k = I o k := by
  unfold cpI am_cp va_cpy
  by_cases c : o = a1
  · rw [if_pos c, if_neg (fun z => h ⟨c, z⟩), c]
  · rw [if_neg c]
section CPS
variable {sc : Option (Nat × (Nat → Int32))} {d k n : Nat} {P : am_O → Prop} {I : am_I} {J : am_J} {Pf : am_R} {ls : am_L} {a0 a1 L0 L1 sp dp L : Nat}
theorem v125_190 (kk : am_go sc d 125 (193, ls, [], (am_SH, cpI I 152 153 0 0 25, J, Pf), k, n) P) : am_go sc d 125 (190, ls, [.int 25, .int 0, .ref 152, .int 0, .ref 153], (am_SH, I, J, Pf), k, n) P :=
  am_s_copy (j := 114) (by decide +kernel) rfl rfl rfl (by decide) (by decide) (by decide) (by decide) (by decide) rfl kk
theorem v109_22 (h0 : am_SH[a0]? = some (.inr (0, L0))) (h1 : am_SH[a1]? = some (.inr (0, L1))) (hL : L < 2147483648) (g4 : L ≤ L0) (g5 : L ≤ L1) (kk : am_go sc d 109 (25, ls, [], (am_SH, cpI I a1 a0 0 0 L, J, Pf), k, n) P) : am_go sc d 109 (22, ls, [.int (ni L), .int 0, .ref a1, .int 0, .ref a0], (am_SH, I, J, Pf), k, n) P := by
  refine am_s_copy (j := 28) (by decide +kernel) rfl h0 h1 (by decide) (by decide) (ni_nonneg hL) ?_ ?_ rfl ?_
  · rw [ni_nat hL]; show 0 + L ≤ L0; omega
  · rw [ni_nat hL]; show 0 + L ≤ L1; omega
  · rw [ni_nat hL]; exact kk
theorem v71_28 (h0 : am_SH[a0]? = some (.inr (0, L0))) (h1 : am_SH[a1]? = some (.inr (0, L1))) (hL : 24 ≤ L0) (hd : dp < 2147483648) (g5 : dp + 24 ≤ L1) (kk : am_go sc d 71 (31, ls, [], (am_SH, cpI I a1 a0 0 dp 24, J, Pf), k, n) P) : am_go sc d 71 (28, ls, [.int 24, .int (ni dp), .ref a1, .int 0, .ref a0], (am_SH, I, J, Pf), k, n) P := by
  refine am_s_copy (j := 27) (by decide +kernel) rfl h0 h1 (by decide) (ni_nonneg hd) (by decide) ?_ ?_ rfl ?_
  · show 0 + 24 ≤ L0; omega
  · rw [ni_nat hd]; exact g5
  · rw [ni_nat hd]; exact kk
theorem v72_37 (h0 : am_SH[a0]? = some (.inr (0, L0))) (h1 : am_SH[a1]? = some (.inr (0, L1))) (hL : 24 ≤ L1) (hd : sp < 2147483648) (g5 : sp + 24 ≤ L0) (kk : am_go sc d 72 (40, ls, [], (am_SH, cpI I a1 a0 sp 0 24, J, Pf), k, n) P) : am_go sc d 72 (37, ls, [.int 24, .int 0, .ref a1, .int (ni sp), .ref a0], (am_SH, I, J, Pf), k, n) P := by
  refine am_s_copy (j := 27) (by decide +kernel) rfl h0 h1 (ni_nonneg hd) (by decide) (by decide) ?_ ?_ rfl ?_
  · rw [ni_nat hd]; exact g5
  · show 0 + 24 ≤ L1; omega
  · rw [ni_nat hd]; exact kk
theorem v73_15 (h0 : am_SH[a0]? = some (.inr (0, L0))) (h1 : am_SH[a1]? = some (.inr (0, L1))) (g4 : 408 ≤ L0) (g5 : 408 ≤ L1) (kk : am_go sc d 73 (18, ls, [], (am_SH, cpI I a1 a0 0 0 408, J, Pf), k, n) P) : am_go sc d 73 (15, ls, [.int 408, .int 0, .ref a1, .int 0, .ref a0], (am_SH, I, J, Pf), k, n) P := by
  refine am_s_copy (j := 27) (by decide +kernel) rfl h0 h1 (by decide) (by decide) (by decide) ?_ ?_ rfl kk
  · show 0 + 408 ≤ L0; omega
  · show 0 + 408 ≤ L1; omega
theorem v73_30 (h0 : am_SH[a0]? = some (.inr (0, L0))) (h1 : am_SH[a1]? = some (.inr (0, L1))) (g4 : 17 ≤ L0) (g5 : 17 ≤ L1) (kk : am_go sc d 73 (33, ls, [], (am_SH, cpI I a1 a0 0 0 17, J, Pf), k, n) P) : am_go sc d 73 (30, ls, [.int 17, .int 0, .ref a1, .int 0, .ref a0], (am_SH, I, J, Pf), k, n) P := by
  refine am_s_copy (j := 27) (by decide +kernel) rfl h0 h1 (by decide) (by decide) (by decide) ?_ ?_ rfl kk
  · show 0 + 17 ≤ L0; omega
  · show 0 + 17 ≤ L1; omega
end CPS
