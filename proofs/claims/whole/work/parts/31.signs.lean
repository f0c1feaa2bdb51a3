/-! Walks: signs -/
-- clear ()V
theorem dc75_0 : ((decode (am_by 75) 0 = .ok (.aload_n 0, 1)) ∧ ((decode (am_by 75) 1 = .ok (.lconst 0, 1)) ∧ (decode (am_by 75) 2 = .ok (.putfield 9, 3)))) ∧ (((decode (am_by 75) 5 = .ok (.aload_n 0, 1)) ∧ (decode (am_by 75) 6 = .ok (.lconst 0, 1))) ∧ ((decode (am_by 75) 7 = .ok (.putfield 15, 3)) ∧ (decode (am_by 75) 10 = .ok (.return_, 1)))) := by decide +kernel
theorem t75_0 {sc : Option (Nat × (Nat → Int32))} {d k n : Nat} {P : am_O → Prop} {I : am_I} {J : am_J} {Pf : am_R} (hp : am_PF Pf) {x0 : Nat} (hx0 : am_SH[x0]? = some (.inl 6)) (q1 : P (.inl none, (am_SH, I, am_u (am_u J x0 0 0) x0 1 0, Pf), k, n)) : am_go sc d 75 (0, [some (.ref x0)], [], (am_SH, I, J, Pf), k, n) P := by
  refine am_s_aload_n rfl dc75_0.1.1 ?_
  refine am_s_lconst (x := 0) (by decide) dc75_0.1.2.1 ?_
  refine am_s_putJ dc75_0.1.2.2 rfl hx0 rfl rfl ?_
  refine am_s_aload_n rfl dc75_0.2.1.1 ?_
  refine am_s_lconst (x := 0) (by decide) dc75_0.2.1.2 ?_
  refine am_s_putJ dc75_0.2.2.1 rfl hx0 rfl rfl ?_
  exact am_s_return dc75_0.2.2.2 rfl (q1)
-- copyFrom (LPrunedParses$Signs;)V
theorem dc76_0 : (((decode (am_by 76) 0 = .ok (.aload_n 0, 1)) ∧ (decode (am_by 76) 1 = .ok (.aload_n 1, 1))) ∧ ((decode (am_by 76) 2 = .ok (.getfield 9, 3)) ∧ (decode (am_by 76) 5 = .ok (.putfield 9, 3)))) ∧ (((decode (am_by 76) 8 = .ok (.aload_n 0, 1)) ∧ (decode (am_by 76) 9 = .ok (.aload_n 1, 1))) ∧ ((decode (am_by 76) 10 = .ok (.getfield 15, 3)) ∧ (decode (am_by 76) 13 = .ok (.putfield 15, 3)))) := by decide +kernel
theorem dc76_1 : decode (am_by 76) 16 = .ok (.return_, 1) := by decide +kernel
theorem t76_0 {sc : Option (Nat × (Nat → Int32))} {d k n : Nat} {P : am_O → Prop} {I : am_I} {J : am_J} {Pf : am_R} (hp : am_PF Pf) {x0 : Nat} (hx0 : am_SH[x0]? = some (.inl 6)) {x1 : Nat} (hx1 : am_SH[x1]? = some (.inl 6)) (q1 : P (.inl none, (am_SH, I, am_u (am_u J x0 0 (J x1 0)) x0 1 ((am_u J x0 0 (J x1 0)) x1 1), Pf), k, n)) : am_go sc d 76 (0, [some (.ref x0), some (.ref x1)], [], (am_SH, I, J, Pf), k, n) P := by
  refine am_s_aload_n rfl dc76_0.1.1.1 ?_
  refine am_s_aload_n rfl dc76_0.1.1.2 ?_
  refine am_x_getJ (x := J x1 0) dc76_0.1.2.1 rfl hx1 rfl rfl ?_
  refine am_s_putJ dc76_0.1.2.2 rfl hx0 rfl rfl ?_
  refine am_s_aload_n rfl dc76_0.2.1.1 ?_
  refine am_s_aload_n rfl dc76_0.2.1.2 ?_
  refine am_x_getJ (x := (am_u J x0 0 (J x1 0)) x1 1) dc76_0.2.2.1 rfl hx1 rfl rfl ?_
  refine am_s_putJ dc76_0.2.2.2 rfl hx0 rfl rfl ?_
  exact am_s_return dc76_1 rfl (q1)
-- add (I)V
theorem dc77_0 : (((decode (am_by 77) 0 = .ok (.iload_n 1, 1)) ∧ (decode (am_by 77) 1 = .ok (.bipush 32, 2))) ∧ ((decode (am_by 77) 3 = .ok (.isub, 1)) ∧ (decode (am_by 77) 4 = .ok (.istore_n 2, 1)))) ∧ (((decode (am_by 77) 5 = .ok (.iload_n 2, 1)) ∧ (decode (am_by 77) 6 = .ok (.ifCond .lt 9, 3))) ∧ ((decode (am_by 77) 9 = .ok (.iload_n 2, 1)) ∧ (decode (am_by 77) 10 = .ok (.bipush 95, 2)))) := by decide +kernel
theorem dc77_1 : (((decode (am_by 77) 12 = .ok (.if_icmp .lt 4, 3)) ∧ (decode (am_by 77) 15 = .ok (.return_, 1))) ∧ ((decode (am_by 77) 16 = .ok (.iload_n 2, 1)) ∧ (decode (am_by 77) 17 = .ok (.bipush 64, 2)))) ∧ (((decode (am_by 77) 19 = .ok (.if_icmp .ge 18, 3)) ∧ (decode (am_by 77) 22 = .ok (.aload_n 0, 1))) ∧ ((decode (am_by 77) 23 = .ok (.dup, 1)) ∧ (decode (am_by 77) 24 = .ok (.getfield 9, 3)))) := by decide +kernel
theorem dc77_2 : (((decode (am_by 77) 27 = .ok (.lconst 1, 1)) ∧ (decode (am_by 77) 28 = .ok (.iload_n 2, 1))) ∧ ((decode (am_by 77) 29 = .ok (.lshl, 1)) ∧ (decode (am_by 77) 30 = .ok (.lor, 1)))) ∧ (((decode (am_by 77) 31 = .ok (.putfield 9, 3)) ∧ (decode (am_by 77) 34 = .ok (.goto 18, 3))) ∧ ((decode (am_by 77) 37 = .ok (.aload_n 0, 1)) ∧ (decode (am_by 77) 38 = .ok (.dup, 1)))) := by decide +kernel
theorem dc77_3 : (((decode (am_by 77) 39 = .ok (.getfield 15, 3)) ∧ (decode (am_by 77) 42 = .ok (.lconst 1, 1))) ∧ ((decode (am_by 77) 43 = .ok (.iload_n 2, 1)) ∧ (decode (am_by 77) 44 = .ok (.bipush 64, 2)))) ∧ (((decode (am_by 77) 46 = .ok (.isub, 1)) ∧ (decode (am_by 77) 47 = .ok (.lshl, 1))) ∧ ((decode (am_by 77) 48 = .ok (.lor, 1)) ∧ (decode (am_by 77) 49 = .ok (.putfield 15, 3)))) := by decide +kernel
theorem dc77_4 : decode (am_by 77) 52 = .ok (.return_, 1) := by decide +kernel
theorem t77_0 {sc : Option (Nat × (Nat → Int32))} {d k n : Nat} {P : am_O → Prop} {I : am_I} {J : am_J} {Pf : am_R} (hp : am_PF Pf) {x0 : Nat} (hx0 : am_SH[x0]? = some (.inl 6)) {x1 : Int32} {l2 : Option Value} (q1 : ((x1 - 32) < 0) → P (.inl none, (am_SH, I, J, Pf), k, n)) (q2 : (¬ ((x1 - 32) < 0)) → ((x1 - 32) < 95) → (64 ≤ (x1 - 32)) → P (.inl none, (am_SH, I, am_u J x0 1 ((J x0 1) ||| (1 <<< (Int32.toInt64 ((x1 - 32) - 64) &&& 63))), Pf), k, n)) (q3 : (¬ ((x1 - 32) < 0)) → ((x1 - 32) < 95) → (¬ (64 ≤ (x1 - 32))) → P (.inl none, (am_SH, I, am_u J x0 0 ((J x0 0) ||| (1 <<< (Int32.toInt64 (x1 - 32) &&& 63))), Pf), k, n)) (q4 : (¬ ((x1 - 32) < 0)) → (¬ ((x1 - 32) < 95)) → P (.inl none, (am_SH, I, J, Pf), k, n)) : am_go sc d 77 (0, [some (.ref x0), some (.int x1), l2], [], (am_SH, I, J, Pf), k, n) P := by
  refine am_s_iload_n rfl dc77_0.1.1.1 ?_
  refine am_s_bipush am_cb32 dc77_0.1.1.2 ?_
  refine am_s_isub dc77_0.1.2.1 ?_
  refine am_s_istore_n (ls' := [some (.ref x0), some (.int x1), some (.int (x1 - 32))]) rfl rfl dc77_0.1.2.2 ?_
  refine am_s_iload_n rfl dc77_0.2.1.1 ?_
  refine am_s_if_lt dc77_0.2.1.2 rfl (fun c1 => ?_) (fun c1 => ?_)
  · exact am_s_return dc77_1.1.1.2 rfl (q1 c1)
  · refine am_s_iload_n rfl dc77_0.2.2.1 ?_
    refine am_s_bipush am_cb95 dc77_0.2.2.2 ?_
    refine am_s_ic_lt dc77_1.1.1.1 rfl (fun c2 => ?_) (fun c2 => ?_)
    · refine am_s_iload_n rfl dc77_1.1.2.1 ?_
      refine am_s_bipush am_cb64 dc77_1.1.2.2 ?_
      refine am_s_ic_ge dc77_1.2.1.1 rfl (fun c3 => ?_) (fun c3 => ?_)
      · refine am_s_aload_n rfl dc77_2.2.2.1 ?_
        refine am_s_dup rfl dc77_2.2.2.2 ?_
        refine am_x_getJ (x := J x0 1) dc77_3.1.1.1 rfl hx0 rfl rfl ?_
        refine am_s_lconst (x := 1) (by decide) dc77_3.1.1.2 ?_
        refine am_s_iload_n rfl dc77_3.1.2.1 ?_
        refine am_s_bipush am_cb64 dc77_3.1.2.2 ?_
        refine am_s_isub dc77_3.2.1.1 ?_
        refine am_s_lshl dc77_3.2.1.2 ?_
        refine am_s_lor dc77_3.2.2.1 ?_
        refine am_s_putJ dc77_3.2.2.2 rfl hx0 rfl rfl ?_
        exact am_s_return dc77_4 rfl (q2 c1 c2 c3)
      · refine am_s_aload_n rfl dc77_1.2.1.2 ?_
        refine am_s_dup rfl dc77_1.2.2.1 ?_
        refine am_x_getJ (x := J x0 0) dc77_1.2.2.2 rfl hx0 rfl rfl ?_
        refine am_s_lconst (x := 1) (by decide) dc77_2.1.1.1 ?_
        refine am_s_iload_n rfl dc77_2.1.1.2 ?_
        refine am_s_lshl dc77_2.1.2.1 ?_
        refine am_s_lor dc77_2.1.2.2 ?_
        refine am_s_putJ dc77_2.2.1.1 rfl hx0 rfl rfl ?_
        refine am_s_goto rfl dc77_2.2.1.2 ?_
        exact am_s_return dc77_4 rfl (q3 c1 c2 c3)
    · exact am_s_return dc77_1.1.1.2 rfl (q4 c1 c2)
-- has (I)Z
theorem dc78_0 : (((decode (am_by 78) 0 = .ok (.iload_n 1, 1)) ∧ (decode (am_by 78) 1 = .ok (.bipush 32, 2))) ∧ ((decode (am_by 78) 3 = .ok (.isub, 1)) ∧ (decode (am_by 78) 4 = .ok (.istore_n 2, 1)))) ∧ (((decode (am_by 78) 5 = .ok (.iload_n 2, 1)) ∧ (decode (am_by 78) 6 = .ok (.ifCond .lt 9, 3))) ∧ ((decode (am_by 78) 9 = .ok (.iload_n 2, 1)) ∧ (decode (am_by 78) 10 = .ok (.bipush 95, 2)))) := by decide +kernel
theorem dc78_1 : (((decode (am_by 78) 12 = .ok (.if_icmp .lt 5, 3)) ∧ (decode (am_by 78) 15 = .ok (.iconst 0, 1))) ∧ ((decode (am_by 78) 16 = .ok (.ireturn, 1)) ∧ (decode (am_by 78) 17 = .ok (.iload_n 2, 1)))) ∧ (((decode (am_by 78) 18 = .ok (.bipush 64, 2)) ∧ (decode (am_by 78) 20 = .ok (.if_icmp .ge 14, 3))) ∧ ((decode (am_by 78) 23 = .ok (.aload_n 0, 1)) ∧ (decode (am_by 78) 24 = .ok (.getfield 9, 3)))) := by decide +kernel
theorem dc78_2 : (((decode (am_by 78) 27 = .ok (.iload_n 2, 1)) ∧ (decode (am_by 78) 28 = .ok (.lushr, 1))) ∧ ((decode (am_by 78) 29 = .ok (.lconst 1, 1)) ∧ (decode (am_by 78) 30 = .ok (.land, 1)))) ∧ (((decode (am_by 78) 31 = .ok (.goto 14, 3)) ∧ (decode (am_by 78) 34 = .ok (.aload_n 0, 1))) ∧ ((decode (am_by 78) 35 = .ok (.getfield 15, 3)) ∧ (decode (am_by 78) 38 = .ok (.iload_n 2, 1)))) := by decide +kernel
theorem dc78_3 : (((decode (am_by 78) 39 = .ok (.bipush 64, 2)) ∧ (decode (am_by 78) 41 = .ok (.isub, 1))) ∧ ((decode (am_by 78) 42 = .ok (.lushr, 1)) ∧ (decode (am_by 78) 43 = .ok (.lconst 1, 1)))) ∧ (((decode (am_by 78) 44 = .ok (.land, 1)) ∧ (decode (am_by 78) 45 = .ok (.lconst 0, 1))) ∧ ((decode (am_by 78) 46 = .ok (.lcmp, 1)) ∧ (decode (am_by 78) 47 = .ok (.ifCond .eq 7, 3)))) := by decide +kernel
theorem dc78_4 : ((decode (am_by 78) 50 = .ok (.iconst 1, 1)) ∧ (decode (am_by 78) 51 = .ok (.goto 4, 3))) ∧ ((decode (am_by 78) 54 = .ok (.iconst 0, 1)) ∧ (decode (am_by 78) 55 = .ok (.ireturn, 1))) := by decide +kernel
theorem t78_0 {sc : Option (Nat × (Nat → Int32))} {d k n : Nat} {P : am_O → Prop} {I : am_I} {J : am_J} {Pf : am_R} (hp : am_PF Pf) {x0 : Nat} (hx0 : am_SH[x0]? = some (.inl 6)) {x1 : Int32} {l2 : Option Value} (q1 : ((x1 - 32) < 0) → P (.inl (some (.int 0)), (am_SH, I, J, Pf), k, n)) (q2 : (¬ ((x1 - 32) < 0)) → ((x1 - 32) < 95) → (64 ≤ (x1 - 32)) → ((lg_cmp ((UInt64.toInt64 (Int64.toUInt64 (J x0 1) >>> (Int64.toUInt64 (Int32.toInt64 ((x1 - 32) - 64)) &&& Int64.toUInt64 63))) &&& 1) 0) = 0) → P (.inl (some (.int 0)), (am_SH, I, J, Pf), k, n)) (q3 : (¬ ((x1 - 32) < 0)) → ((x1 - 32) < 95) → (64 ≤ (x1 - 32)) → (¬ ((lg_cmp ((UInt64.toInt64 (Int64.toUInt64 (J x0 1) >>> (Int64.toUInt64 (Int32.toInt64 ((x1 - 32) - 64)) &&& Int64.toUInt64 63))) &&& 1) 0) = 0)) → P (.inl (some (.int 1)), (am_SH, I, J, Pf), k, n)) (q4 : (¬ ((x1 - 32) < 0)) → ((x1 - 32) < 95) → (¬ (64 ≤ (x1 - 32))) → ((lg_cmp ((UInt64.toInt64 (Int64.toUInt64 (J x0 0) >>> (Int64.toUInt64 (Int32.toInt64 (x1 - 32)) &&& Int64.toUInt64 63))) &&& 1) 0) = 0) → P (.inl (some (.int 0)), (am_SH, I, J, Pf), k, n)) (q5 : (¬ ((x1 - 32) < 0)) → ((x1 - 32) < 95) → (¬ (64 ≤ (x1 - 32))) → (¬ ((lg_cmp ((UInt64.toInt64 (Int64.toUInt64 (J x0 0) >>> (Int64.toUInt64 (Int32.toInt64 (x1 - 32)) &&& Int64.toUInt64 63))) &&& 1) 0) = 0)) → P (.inl (some (.int 1)), (am_SH, I, J, Pf), k, n)) (q6 : (¬ ((x1 - 32) < 0)) → (¬ ((x1 - 32) < 95)) → P (.inl (some (.int 0)), (am_SH, I, J, Pf), k, n)) : am_go sc d 78 (0, [some (.ref x0), some (.int x1), l2], [], (am_SH, I, J, Pf), k, n) P := by
  refine am_s_iload_n rfl dc78_0.1.1.1 ?_
  refine am_s_bipush am_cb32 dc78_0.1.1.2 ?_
  refine am_s_isub dc78_0.1.2.1 ?_
  refine am_s_istore_n (ls' := [some (.ref x0), some (.int x1), some (.int (x1 - 32))]) rfl rfl dc78_0.1.2.2 ?_
  refine am_s_iload_n rfl dc78_0.2.1.1 ?_
  refine am_s_if_lt dc78_0.2.1.2 rfl (fun c1 => ?_) (fun c1 => ?_)
  · refine am_s_iconst am_cc0 dc78_1.1.1.2 ?_
    exact am_s_zreturn dc78_1.1.2.1 rfl (by decide) (q1 c1)
  · refine am_s_iload_n rfl dc78_0.2.2.1 ?_
    refine am_s_bipush am_cb95 dc78_0.2.2.2 ?_
    refine am_s_ic_lt dc78_1.1.1.1 rfl (fun c2 => ?_) (fun c2 => ?_)
    · refine am_s_iload_n rfl dc78_1.1.2.2 ?_
      refine am_s_bipush am_cb64 dc78_1.2.1.1 ?_
      refine am_s_ic_ge dc78_1.2.1.2 rfl (fun c3 => ?_) (fun c3 => ?_)
      · refine am_s_aload_n rfl dc78_2.2.1.2 ?_
        refine am_x_getJ (x := J x0 1) dc78_2.2.2.1 rfl hx0 rfl rfl ?_
        refine am_s_iload_n rfl dc78_2.2.2.2 ?_
        refine am_s_bipush am_cb64 dc78_3.1.1.1 ?_
        refine am_s_isub dc78_3.1.1.2 ?_
        refine am_s_lushr dc78_3.1.2.1 ?_
        refine am_s_lconst (x := 1) (by decide) dc78_3.1.2.2 ?_
        refine am_s_land dc78_3.2.1.1 ?_
        refine am_s_lconst (x := 0) (by decide) dc78_3.2.1.2 ?_
        refine am_s_lcmp dc78_3.2.2.1 ?_
        refine am_s_if_eq dc78_3.2.2.2 rfl (fun c4 => ?_) (fun c4 => ?_)
        · refine am_s_iconst am_cc0 dc78_4.2.1 ?_
          exact am_s_zreturn dc78_4.2.2 rfl (by decide) (q2 c1 c2 c3 c4)
        · refine am_s_iconst am_cc1 dc78_4.1.1 ?_
          refine am_s_goto rfl dc78_4.1.2 ?_
          exact am_s_zreturn dc78_4.2.2 rfl (by decide) (q3 c1 c2 c3 c4)
      · refine am_s_aload_n rfl dc78_1.2.2.1 ?_
        refine am_x_getJ (x := J x0 0) dc78_1.2.2.2 rfl hx0 rfl rfl ?_
        refine am_s_iload_n rfl dc78_2.1.1.1 ?_
        refine am_s_lushr dc78_2.1.1.2 ?_
        refine am_s_lconst (x := 1) (by decide) dc78_2.1.2.1 ?_
        refine am_s_land dc78_2.1.2.2 ?_
        refine am_s_goto rfl dc78_2.2.1.1 ?_
        refine am_s_lconst (x := 0) (by decide) dc78_3.2.1.2 ?_
        refine am_s_lcmp dc78_3.2.2.1 ?_
        refine am_s_if_eq dc78_3.2.2.2 rfl (fun c4 => ?_) (fun c4 => ?_)
        · refine am_s_iconst am_cc0 dc78_4.2.1 ?_
          exact am_s_zreturn dc78_4.2.2 rfl (by decide) (q4 c1 c2 c3 c4)
        · refine am_s_iconst am_cc1 dc78_4.1.1 ?_
          refine am_s_goto rfl dc78_4.1.2 ?_
          exact am_s_zreturn dc78_4.2.2 rfl (by decide) (q5 c1 c2 c3 c4)
    · refine am_s_iconst am_cc0 dc78_1.1.1.2 ?_
      exact am_s_zreturn dc78_1.1.2.1 rfl (by decide) (q6 c1 c2)
-- join (LPrunedParses$Signs;)V
theorem dc79_0 : (((decode (am_by 79) 0 = .ok (.aload_n 0, 1)) ∧ (decode (am_by 79) 1 = .ok (.dup, 1))) ∧ ((decode (am_by 79) 2 = .ok (.getfield 9, 3)) ∧ (decode (am_by 79) 5 = .ok (.aload_n 1, 1)))) ∧ (((decode (am_by 79) 6 = .ok (.getfield 9, 3)) ∧ (decode (am_by 79) 9 = .ok (.lor, 1))) ∧ ((decode (am_by 79) 10 = .ok (.putfield 9, 3)) ∧ (decode (am_by 79) 13 = .ok (.aload_n 0, 1)))) := by decide +kernel
theorem dc79_1 : ((decode (am_by 79) 14 = .ok (.dup, 1)) ∧ ((decode (am_by 79) 15 = .ok (.getfield 15, 3)) ∧ (decode (am_by 79) 18 = .ok (.aload_n 1, 1)))) ∧ (((decode (am_by 79) 19 = .ok (.getfield 15, 3)) ∧ (decode (am_by 79) 22 = .ok (.lor, 1))) ∧ ((decode (am_by 79) 23 = .ok (.putfield 15, 3)) ∧ (decode (am_by 79) 26 = .ok (.return_, 1)))) := by decide +kernel
theorem t79_0 {sc : Option (Nat × (Nat → Int32))} {d k n : Nat} {P : am_O → Prop} {I : am_I} {J : am_J} {Pf : am_R} (hp : am_PF Pf) {x0 : Nat} (hx0 : am_SH[x0]? = some (.inl 6)) {x1 : Nat} (hx1 : am_SH[x1]? = some (.inl 6)) (q1 : P (.inl none, (am_SH, I, am_u (am_u J x0 0 ((J x0 0) ||| (J x1 0))) x0 1 ((J x0 1) ||| ((am_u J x0 0 ((J x0 0) ||| (J x1 0))) x1 1)), Pf), k, n)) : am_go sc d 79 (0, [some (.ref x0), some (.ref x1)], [], (am_SH, I, J, Pf), k, n) P := by
  refine am_s_aload_n rfl dc79_0.1.1.1 ?_
  refine am_s_dup rfl dc79_0.1.1.2 ?_
  refine am_x_getJ (x := J x0 0) dc79_0.1.2.1 rfl hx0 rfl rfl ?_
  refine am_s_aload_n rfl dc79_0.1.2.2 ?_
  refine am_x_getJ (x := J x1 0) dc79_0.2.1.1 rfl hx1 rfl rfl ?_
  refine am_s_lor dc79_0.2.1.2 ?_
  refine am_s_putJ dc79_0.2.2.1 rfl hx0 rfl rfl ?_
  refine am_s_aload_n rfl dc79_0.2.2.2 ?_
  refine am_s_dup rfl dc79_1.1.1 ?_
  refine am_x_getJ (x := J x0 1) dc79_1.1.2.1 rfl hx0 rfl (by simp [am_u]) ?_
  refine am_s_aload_n rfl dc79_1.1.2.2 ?_
  refine am_x_getJ (x := (am_u J x0 0 ((J x0 0) ||| (J x1 0))) x1 1) dc79_1.2.1.1 rfl hx1 rfl rfl ?_
  refine am_s_lor dc79_1.2.1.2 ?_
  refine am_s_putJ dc79_1.2.2.1 rfl hx0 rfl rfl ?_
  exact am_s_return dc79_1.2.2.2 rfl (q1)
-- meet (LPrunedParses$Signs;)V
theorem dc80_0 : (((decode (am_by 80) 0 = .ok (.aload_n 0, 1)) ∧ (decode (am_by 80) 1 = .ok (.dup, 1))) ∧ ((decode (am_by 80) 2 = .ok (.getfield 9, 3)) ∧ (decode (am_by 80) 5 = .ok (.aload_n 1, 1)))) ∧ (((decode (am_by 80) 6 = .ok (.getfield 9, 3)) ∧ (decode (am_by 80) 9 = .ok (.land, 1))) ∧ ((decode (am_by 80) 10 = .ok (.putfield 9, 3)) ∧ (decode (am_by 80) 13 = .ok (.aload_n 0, 1)))) := by decide +kernel
theorem dc80_1 : ((decode (am_by 80) 14 = .ok (.dup, 1)) ∧ ((decode (am_by 80) 15 = .ok (.getfield 15, 3)) ∧ (decode (am_by 80) 18 = .ok (.aload_n 1, 1)))) ∧ (((decode (am_by 80) 19 = .ok (.getfield 15, 3)) ∧ (decode (am_by 80) 22 = .ok (.land, 1))) ∧ ((decode (am_by 80) 23 = .ok (.putfield 15, 3)) ∧ (decode (am_by 80) 26 = .ok (.return_, 1)))) := by decide +kernel
theorem t80_0 {sc : Option (Nat × (Nat → Int32))} {d k n : Nat} {P : am_O → Prop} {I : am_I} {J : am_J} {Pf : am_R} (hp : am_PF Pf) {x0 : Nat} (hx0 : am_SH[x0]? = some (.inl 6)) {x1 : Nat} (hx1 : am_SH[x1]? = some (.inl 6)) (q1 : P (.inl none, (am_SH, I, am_u (am_u J x0 0 ((J x0 0) &&& (J x1 0))) x0 1 ((J x0 1) &&& ((am_u J x0 0 ((J x0 0) &&& (J x1 0))) x1 1)), Pf), k, n)) : am_go sc d 80 (0, [some (.ref x0), some (.ref x1)], [], (am_SH, I, J, Pf), k, n) P := by
  refine am_s_aload_n rfl dc80_0.1.1.1 ?_
  refine am_s_dup rfl dc80_0.1.1.2 ?_
  refine am_x_getJ (x := J x0 0) dc80_0.1.2.1 rfl hx0 rfl rfl ?_
  refine am_s_aload_n rfl dc80_0.1.2.2 ?_
  refine am_x_getJ (x := J x1 0) dc80_0.2.1.1 rfl hx1 rfl rfl ?_
  refine am_s_land dc80_0.2.1.2 ?_
  refine am_s_putJ dc80_0.2.2.1 rfl hx0 rfl rfl ?_
  refine am_s_aload_n rfl dc80_0.2.2.2 ?_
  refine am_s_dup rfl dc80_1.1.1 ?_
  refine am_x_getJ (x := J x0 1) dc80_1.1.2.1 rfl hx0 rfl (by simp [am_u]) ?_
  refine am_s_aload_n rfl dc80_1.1.2.2 ?_
  refine am_x_getJ (x := (am_u J x0 0 ((J x0 0) &&& (J x1 0))) x1 1) dc80_1.2.1.1 rfl hx1 rfl rfl ?_
  refine am_s_land dc80_1.2.1.2 ?_
  refine am_s_putJ dc80_1.2.2.1 rfl hx0 rfl rfl ?_
  exact am_s_return dc80_1.2.2.2 rfl (q1)
-- lessen (LPrunedParses$Signs;)V
theorem dc81_0 : (((decode (am_by 81) 0 = .ok (.aload_n 0, 1)) ∧ (decode (am_by 81) 1 = .ok (.aload_n 0, 1))) ∧ ((decode (am_by 81) 2 = .ok (.getfield 9, 3)) ∧ (decode (am_by 81) 5 = .ok (.aload_n 1, 1)))) ∧ (((decode (am_by 81) 6 = .ok (.getfield 9, 3)) ∧ (decode (am_by 81) 9 = .ok (.ldc2_w 18, 3))) ∧ ((decode (am_by 81) 12 = .ok (.lxor, 1)) ∧ (decode (am_by 81) 13 = .ok (.land, 1)))) := by decide +kernel
theorem dc81_1 : (((decode (am_by 81) 14 = .ok (.putfield 9, 3)) ∧ (decode (am_by 81) 17 = .ok (.aload_n 0, 1))) ∧ ((decode (am_by 81) 18 = .ok (.aload_n 0, 1)) ∧ (decode (am_by 81) 19 = .ok (.getfield 15, 3)))) ∧ (((decode (am_by 81) 22 = .ok (.aload_n 1, 1)) ∧ (decode (am_by 81) 23 = .ok (.getfield 15, 3))) ∧ ((decode (am_by 81) 26 = .ok (.ldc2_w 18, 3)) ∧ (decode (am_by 81) 29 = .ok (.lxor, 1)))) := by decide +kernel
theorem dc81_2 : (decode (am_by 81) 30 = .ok (.land, 1)) ∧ ((decode (am_by 81) 31 = .ok (.putfield 15, 3)) ∧ (decode (am_by 81) 34 = .ok (.return_, 1))) := by decide +kernel
theorem t81_0 {sc : Option (Nat × (Nat → Int32))} {d k n : Nat} {P : am_O → Prop} {I : am_I} {J : am_J} {Pf : am_R} (hp : am_PF Pf) {x0 : Nat} (hx0 : am_SH[x0]? = some (.inl 6)) {x1 : Nat} (hx1 : am_SH[x1]? = some (.inl 6)) (q1 : P (.inl none, (am_SH, I, am_u (am_u J x0 0 ((J x0 0) &&& ((J x1 0) ^^^ (-1)))) x0 1 ((J x0 1) &&& (((am_u J x0 0 ((J x0 0) &&& ((J x1 0) ^^^ (-1)))) x1 1) ^^^ (-1))), Pf), k, n)) : am_go sc d 81 (0, [some (.ref x0), some (.ref x1)], [], (am_SH, I, J, Pf), k, n) P := by
  refine am_s_aload_n rfl dc81_0.1.1.1 ?_
  refine am_s_aload_n rfl dc81_0.1.1.2 ?_
  refine am_x_getJ (x := J x0 0) dc81_0.1.2.1 rfl hx0 rfl rfl ?_
  refine am_s_aload_n rfl dc81_0.1.2.2 ?_
  refine am_x_getJ (x := J x1 0) dc81_0.2.1.1 rfl hx1 rfl rfl ?_
  refine am_s_ldc2 (x := (-1)) dc81_0.2.1.2 rfl rfl ?_
  refine am_s_lxor dc81_0.2.2.1 ?_
  refine am_s_land dc81_0.2.2.2 ?_
  refine am_s_putJ dc81_1.1.1.1 rfl hx0 rfl rfl ?_
  refine am_s_aload_n rfl dc81_1.1.1.2 ?_
  refine am_s_aload_n rfl dc81_1.1.2.1 ?_
  refine am_x_getJ (x := J x0 1) dc81_1.1.2.2 rfl hx0 rfl (by simp [am_u]) ?_
  refine am_s_aload_n rfl dc81_1.2.1.1 ?_
  refine am_x_getJ (x := (am_u J x0 0 ((J x0 0) &&& ((J x1 0) ^^^ (-1)))) x1 1) dc81_1.2.1.2 rfl hx1 rfl rfl ?_
  refine am_s_ldc2 (x := (-1)) dc81_1.2.2.1 rfl rfl ?_
  refine am_s_lxor dc81_1.2.2.2 ?_
  refine am_s_land dc81_2.1 ?_
  refine am_s_putJ dc81_2.2.1 rfl hx0 rfl rfl ?_
  exact am_s_return dc81_2.2.2 rfl (q1)
-- turn ()V
theorem dc82_0 : (((decode (am_by 82) 0 = .ok (.aload_n 0, 1)) ∧ (decode (am_by 82) 1 = .ok (.aload_n 0, 1))) ∧ ((decode (am_by 82) 2 = .ok (.getfield 9, 3)) ∧ (decode (am_by 82) 5 = .ok (.ldc2_w 18, 3)))) ∧ (((decode (am_by 82) 8 = .ok (.lxor, 1)) ∧ (decode (am_by 82) 9 = .ok (.putfield 9, 3))) ∧ ((decode (am_by 82) 12 = .ok (.aload_n 0, 1)) ∧ (decode (am_by 82) 13 = .ok (.aload_n 0, 1)))) := by decide +kernel
theorem dc82_1 : ((decode (am_by 82) 14 = .ok (.getfield 15, 3)) ∧ ((decode (am_by 82) 17 = .ok (.ldc2_w 18, 3)) ∧ (decode (am_by 82) 20 = .ok (.lxor, 1)))) ∧ (((decode (am_by 82) 21 = .ok (.ldc2_w 20, 3)) ∧ (decode (am_by 82) 24 = .ok (.land, 1))) ∧ ((decode (am_by 82) 25 = .ok (.putfield 15, 3)) ∧ (decode (am_by 82) 28 = .ok (.return_, 1)))) := by decide +kernel
theorem t82_0 {sc : Option (Nat × (Nat → Int32))} {d k n : Nat} {P : am_O → Prop} {I : am_I} {J : am_J} {Pf : am_R} (hp : am_PF Pf) {x0 : Nat} (hx0 : am_SH[x0]? = some (.inl 6)) (q1 : P (.inl none, (am_SH, I, am_u (am_u J x0 0 ((J x0 0) ^^^ (-1))) x0 1 (((J x0 1) ^^^ (-1)) &&& 2147483647), Pf), k, n)) : am_go sc d 82 (0, [some (.ref x0)], [], (am_SH, I, J, Pf), k, n) P := by
  refine am_s_aload_n rfl dc82_0.1.1.1 ?_
  refine am_s_aload_n rfl dc82_0.1.1.2 ?_
  refine am_x_getJ (x := J x0 0) dc82_0.1.2.1 rfl hx0 rfl rfl ?_
  refine am_s_ldc2 (x := (-1)) dc82_0.1.2.2 rfl rfl ?_
  refine am_s_lxor dc82_0.2.1.1 ?_
  refine am_s_putJ dc82_0.2.1.2 rfl hx0 rfl rfl ?_
  refine am_s_aload_n rfl dc82_0.2.2.1 ?_
  refine am_s_aload_n rfl dc82_0.2.2.2 ?_
  refine am_x_getJ (x := J x0 1) dc82_1.1.1 rfl hx0 rfl (by simp [am_u]) ?_
  refine am_s_ldc2 (x := (-1)) dc82_1.1.2.1 rfl rfl ?_
  refine am_s_lxor dc82_1.1.2.2 ?_
  refine am_s_ldc2 (x := 2147483647) dc82_1.2.1.1 rfl rfl ?_
  refine am_s_land dc82_1.2.1.2 ?_
  refine am_s_putJ dc82_1.2.2.1 rfl hx0 rfl rfl ?_
  exact am_s_return dc82_1.2.2.2 rfl (q1)
-- size ()I
theorem dc83_0 : (((decode (am_by 83) 0 = .ok (.aload_n 0, 1)) ∧ (decode (am_by 83) 1 = .ok (.getfield 9, 3))) ∧ ((decode (am_by 83) 4 = .ok (.invokestatic 22, 3)) ∧ (decode (am_by 83) 7 = .ok (.aload_n 0, 1)))) ∧ (((decode (am_by 83) 8 = .ok (.getfield 15, 3)) ∧ (decode (am_by 83) 11 = .ok (.invokestatic 22, 3))) ∧ ((decode (am_by 83) 14 = .ok (.iadd, 1)) ∧ (decode (am_by 83) 15 = .ok (.ireturn, 1)))) := by decide +kernel
theorem t83_0 {sc : Option (Nat × (Nat → Int32))} {d k n : Nat} {P : am_O → Prop} {I : am_I} {J : am_J} {Pf : am_R} (hp : am_PF Pf) {x0 : Nat} (hx0 : am_SH[x0]? = some (.inl 6)) (q1 : am_mth d 328 [.long (J x0 0)] (am_SH, I, J, Pf) (am_af sc d 83 4 [some (.ref x0)] [.long (J x0 0)] [] (am_SH, I, J, Pf) k n false P)) : am_go sc d 83 (0, [some (.ref x0)], [], (am_SH, I, J, Pf), k, n) P := by
  refine am_s_aload_n rfl dc83_0.1.1.1 ?_
  refine am_x_getJ (x := J x0 0) dc83_0.1.1.2 rfl hx0 rfl rfl ?_
  exact am_s_static dc83_0.1.2.1 rfl rfl rfl (q1)
theorem t83_7 {sc : Option (Nat × (Nat → Int32))} {d k n : Nat} {P : am_O → Prop} {I : am_I} {J : am_J} {Pf : am_R} (hp : am_PF Pf) {x0 : Nat} (hx0 : am_SH[x0]? = some (.inl 6)) {s0 : Int32} (q1 : am_mth d 328 [.long (J x0 1)] (am_SH, I, J, Pf) (am_af sc d 83 11 [some (.ref x0)] [.long (J x0 1), .int s0] [.int s0] (am_SH, I, J, Pf) k n false P)) : am_go sc d 83 (7, [some (.ref x0)], [.int s0], (am_SH, I, J, Pf), k, n) P := by
  refine am_s_aload_n rfl dc83_0.1.2.2 ?_
  refine am_x_getJ (x := J x0 1) dc83_0.2.1.1 rfl hx0 rfl rfl ?_
  exact am_s_static dc83_0.2.1.2 rfl rfl rfl (q1)
theorem t83_14 {sc : Option (Nat × (Nat → Int32))} {d k n : Nat} {P : am_O → Prop} {I : am_I} {J : am_J} {Pf : am_R} (hp : am_PF Pf) {l0 : Option Value} {s0 : Int32} {s1 : Int32} (q1 : P (.inl (some (.int (s0 + s1))), (am_SH, I, J, Pf), k, n)) : am_go sc d 83 (14, [l0], [.int s1, .int s0], (am_SH, I, J, Pf), k, n) P := by
  refine am_s_iadd dc83_0.2.2.1 ?_
  exact am_s_ireturn dc83_0.2.2.2 rfl (q1)
-- like (LPrunedParses$Signs;)Z
theorem dc84_0 : (((decode (am_by 84) 0 = .ok (.aload_n 0, 1)) ∧ (decode (am_by 84) 1 = .ok (.getfield 9, 3))) ∧ ((decode (am_by 84) 4 = .ok (.aload_n 1, 1)) ∧ (decode (am_by 84) 5 = .ok (.getfield 9, 3)))) ∧ (((decode (am_by 84) 8 = .ok (.lcmp, 1)) ∧ (decode (am_by 84) 9 = .ok (.ifCond .ne 19, 3))) ∧ ((decode (am_by 84) 12 = .ok (.aload_n 0, 1)) ∧ (decode (am_by 84) 13 = .ok (.getfield 15, 3)))) := by decide +kernel
theorem dc84_1 : (((decode (am_by 84) 16 = .ok (.aload_n 1, 1)) ∧ (decode (am_by 84) 17 = .ok (.getfield 15, 3))) ∧ ((decode (am_by 84) 20 = .ok (.lcmp, 1)) ∧ (decode (am_by 84) 21 = .ok (.ifCond .ne 7, 3)))) ∧ (((decode (am_by 84) 24 = .ok (.iconst 1, 1)) ∧ (decode (am_by 84) 25 = .ok (.goto 4, 3))) ∧ ((decode (am_by 84) 28 = .ok (.iconst 0, 1)) ∧ (decode (am_by 84) 29 = .ok (.ireturn, 1)))) := by decide +kernel
theorem t84_0 {sc : Option (Nat × (Nat → Int32))} {d k n : Nat} {P : am_O → Prop} {I : am_I} {J : am_J} {Pf : am_R} (hp : am_PF Pf) {x0 : Nat} (hx0 : am_SH[x0]? = some (.inl 6)) {x1 : Nat} (hx1 : am_SH[x1]? = some (.inl 6)) (q1 : (¬ (lg_cmp (J x0 0) (J x1 0)) = 0) → P (.inl (some (.int 0)), (am_SH, I, J, Pf), k, n)) (q2 : (¬ (¬ (lg_cmp (J x0 0) (J x1 0)) = 0)) → (¬ (lg_cmp (J x0 1) (J x1 1)) = 0) → P (.inl (some (.int 0)), (am_SH, I, J, Pf), k, n)) (q3 : (¬ (¬ (lg_cmp (J x0 0) (J x1 0)) = 0)) → (¬ (¬ (lg_cmp (J x0 1) (J x1 1)) = 0)) → P (.inl (some (.int 1)), (am_SH, I, J, Pf), k, n)) : am_go sc d 84 (0, [some (.ref x0), some (.ref x1)], [], (am_SH, I, J, Pf), k, n) P := by
  refine am_s_aload_n rfl dc84_0.1.1.1 ?_
  refine am_x_getJ (x := J x0 0) dc84_0.1.1.2 rfl hx0 rfl rfl ?_
  refine am_s_aload_n rfl dc84_0.1.2.1 ?_
  refine am_x_getJ (x := J x1 0) dc84_0.1.2.2 rfl hx1 rfl rfl ?_
  refine am_s_lcmp dc84_0.2.1.1 ?_
  refine am_s_if_ne dc84_0.2.1.2 rfl (fun c1 => ?_) (fun c1 => ?_)
  · refine am_s_iconst am_cc0 dc84_1.2.2.1 ?_
    exact am_s_zreturn dc84_1.2.2.2 rfl (by decide) (q1 c1)
  · refine am_s_aload_n rfl dc84_0.2.2.1 ?_
    refine am_x_getJ (x := J x0 1) dc84_0.2.2.2 rfl hx0 rfl rfl ?_
    refine am_s_aload_n rfl dc84_1.1.1.1 ?_
    refine am_x_getJ (x := J x1 1) dc84_1.1.1.2 rfl hx1 rfl rfl ?_
    refine am_s_lcmp dc84_1.1.2.1 ?_
    refine am_s_if_ne dc84_1.1.2.2 rfl (fun c2 => ?_) (fun c2 => ?_)
    · refine am_s_iconst am_cc0 dc84_1.2.2.1 ?_
      exact am_s_zreturn dc84_1.2.2.2 rfl (by decide) (q2 c1 c2)
    · refine am_s_iconst am_cc1 dc84_1.2.1.1 ?_
      refine am_s_goto rfl dc84_1.2.1.2 ?_
      exact am_s_zreturn dc84_1.2.2.2 rfl (by decide) (q3 c1 c2)
-- within (LPrunedParses$Signs;)Z
theorem dc85_0 : (((decode (am_by 85) 0 = .ok (.aload_n 0, 1)) ∧ (decode (am_by 85) 1 = .ok (.getfield 9, 3))) ∧ ((decode (am_by 85) 4 = .ok (.aload_n 1, 1)) ∧ (decode (am_by 85) 5 = .ok (.getfield 9, 3)))) ∧ (((decode (am_by 85) 8 = .ok (.ldc2_w 18, 3)) ∧ (decode (am_by 85) 11 = .ok (.lxor, 1))) ∧ ((decode (am_by 85) 12 = .ok (.land, 1)) ∧ (decode (am_by 85) 13 = .ok (.lconst 0, 1)))) := by decide +kernel
theorem dc85_1 : (((decode (am_by 85) 14 = .ok (.lcmp, 1)) ∧ (decode (am_by 85) 15 = .ok (.ifCond .ne 25, 3))) ∧ ((decode (am_by 85) 18 = .ok (.aload_n 0, 1)) ∧ (decode (am_by 85) 19 = .ok (.getfield 15, 3)))) ∧ (((decode (am_by 85) 22 = .ok (.aload_n 1, 1)) ∧ (decode (am_by 85) 23 = .ok (.getfield 15, 3))) ∧ ((decode (am_by 85) 26 = .ok (.ldc2_w 18, 3)) ∧ (decode (am_by 85) 29 = .ok (.lxor, 1)))) := by decide +kernel
theorem dc85_2 : (((decode (am_by 85) 30 = .ok (.land, 1)) ∧ (decode (am_by 85) 31 = .ok (.lconst 0, 1))) ∧ ((decode (am_by 85) 32 = .ok (.lcmp, 1)) ∧ (decode (am_by 85) 33 = .ok (.ifCond .ne 7, 3)))) ∧ (((decode (am_by 85) 36 = .ok (.iconst 1, 1)) ∧ (decode (am_by 85) 37 = .ok (.goto 4, 3))) ∧ ((decode (am_by 85) 40 = .ok (.iconst 0, 1)) ∧ (decode (am_by 85) 41 = .ok (.ireturn, 1)))) := by decide +kernel
theorem t85_0 {sc : Option (Nat × (Nat → Int32))} {d k n : Nat} {P : am_O → Prop} {I : am_I} {J : am_J} {Pf : am_R} (hp : am_PF Pf) {x0 : Nat} (hx0 : am_SH[x0]? = some (.inl 6)) {x1 : Nat} (hx1 : am_SH[x1]? = some (.inl 6)) (q1 : (¬ (lg_cmp ((J x0 0) &&& ((J x1 0) ^^^ (-1))) 0) = 0) → P (.inl (some (.int 0)), (am_SH, I, J, Pf), k, n)) (q2 : (¬ (¬ (lg_cmp ((J x0 0) &&& ((J x1 0) ^^^ (-1))) 0) = 0)) → (¬ (lg_cmp ((J x0 1) &&& ((J x1 1) ^^^ (-1))) 0) = 0) → P (.inl (some (.int 0)), (am_SH, I, J, Pf), k, n)) (q3 : (¬ (¬ (lg_cmp ((J x0 0) &&& ((J x1 0) ^^^ (-1))) 0) = 0)) → (¬ (¬ (lg_cmp ((J x0 1) &&& ((J x1 1) ^^^ (-1))) 0) = 0)) → P (.inl (some (.int 1)), (am_SH, I, J, Pf), k, n)) : am_go sc d 85 (0, [some (.ref x0), some (.ref x1)], [], (am_SH, I, J, Pf), k, n) P := by
  refine am_s_aload_n rfl dc85_0.1.1.1 ?_
  refine am_x_getJ (x := J x0 0) dc85_0.1.1.2 rfl hx0 rfl rfl ?_
  refine am_s_aload_n rfl dc85_0.1.2.1 ?_
  refine am_x_getJ (x := J x1 0) dc85_0.1.2.2 rfl hx1 rfl rfl ?_
  refine am_s_ldc2 (x := (-1)) dc85_0.2.1.1 rfl rfl ?_
  refine am_s_lxor dc85_0.2.1.2 ?_
  refine am_s_land dc85_0.2.2.1 ?_
  refine am_s_lconst (x := 0) (by decide) dc85_0.2.2.2 ?_
  refine am_s_lcmp dc85_1.1.1.1 ?_
  refine am_s_if_ne dc85_1.1.1.2 rfl (fun c1 => ?_) (fun c1 => ?_)
  · refine am_s_iconst am_cc0 dc85_2.2.2.1 ?_
    exact am_s_zreturn dc85_2.2.2.2 rfl (by decide) (q1 c1)
  · refine am_s_aload_n rfl dc85_1.1.2.1 ?_
    refine am_x_getJ (x := J x0 1) dc85_1.1.2.2 rfl hx0 rfl rfl ?_
    refine am_s_aload_n rfl dc85_1.2.1.1 ?_
    refine am_x_getJ (x := J x1 1) dc85_1.2.1.2 rfl hx1 rfl rfl ?_
    refine am_s_ldc2 (x := (-1)) dc85_1.2.2.1 rfl rfl ?_
    refine am_s_lxor dc85_1.2.2.2 ?_
    refine am_s_land dc85_2.1.1.1 ?_
    refine am_s_lconst (x := 0) (by decide) dc85_2.1.1.2 ?_
    refine am_s_lcmp dc85_2.1.2.1 ?_
    refine am_s_if_ne dc85_2.1.2.2 rfl (fun c2 => ?_) (fun c2 => ?_)
    · refine am_s_iconst am_cc0 dc85_2.2.2.1 ?_
      exact am_s_zreturn dc85_2.2.2.2 rfl (by decide) (q2 c1 c2)
    · refine am_s_iconst am_cc1 dc85_2.2.1.1 ?_
      refine am_s_goto rfl dc85_2.2.1.2 ?_
      exact am_s_zreturn dc85_2.2.2.2 rfl (by decide) (q3 c1 c2)
-- meets (LPrunedParses$Signs;)Z
theorem dc86_0 : (((decode (am_by 86) 0 = .ok (.aload_n 0, 1)) ∧ (decode (am_by 86) 1 = .ok (.getfield 9, 3))) ∧ ((decode (am_by 86) 4 = .ok (.aload_n 1, 1)) ∧ (decode (am_by 86) 5 = .ok (.getfield 9, 3)))) ∧ (((decode (am_by 86) 8 = .ok (.land, 1)) ∧ (decode (am_by 86) 9 = .ok (.lconst 0, 1))) ∧ ((decode (am_by 86) 10 = .ok (.lcmp, 1)) ∧ (decode (am_by 86) 11 = .ok (.ifCond .ne 17, 3)))) := by decide +kernel
theorem dc86_1 : (((decode (am_by 86) 14 = .ok (.aload_n 0, 1)) ∧ (decode (am_by 86) 15 = .ok (.getfield 15, 3))) ∧ ((decode (am_by 86) 18 = .ok (.aload_n 1, 1)) ∧ (decode (am_by 86) 19 = .ok (.getfield 15, 3)))) ∧ (((decode (am_by 86) 22 = .ok (.land, 1)) ∧ (decode (am_by 86) 23 = .ok (.lconst 0, 1))) ∧ ((decode (am_by 86) 24 = .ok (.lcmp, 1)) ∧ (decode (am_by 86) 25 = .ok (.ifCond .eq 7, 3)))) := by decide +kernel
theorem dc86_2 : ((decode (am_by 86) 28 = .ok (.iconst 1, 1)) ∧ (decode (am_by 86) 29 = .ok (.goto 4, 3))) ∧ ((decode (am_by 86) 32 = .ok (.iconst 0, 1)) ∧ (decode (am_by 86) 33 = .ok (.ireturn, 1))) := by decide +kernel
theorem t86_0 {sc : Option (Nat × (Nat → Int32))} {d k n : Nat} {P : am_O → Prop} {I : am_I} {J : am_J} {Pf : am_R} (hp : am_PF Pf) {x0 : Nat} (hx0 : am_SH[x0]? = some (.inl 6)) {x1 : Nat} (hx1 : am_SH[x1]? = some (.inl 6)) (q1 : (¬ (lg_cmp ((J x0 0) &&& (J x1 0)) 0) = 0) → P (.inl (some (.int 1)), (am_SH, I, J, Pf), k, n)) (q2 : (¬ (¬ (lg_cmp ((J x0 0) &&& (J x1 0)) 0) = 0)) → ((lg_cmp ((J x0 1) &&& (J x1 1)) 0) = 0) → P (.inl (some (.int 0)), (am_SH, I, J, Pf), k, n)) (q3 : (¬ (¬ (lg_cmp ((J x0 0) &&& (J x1 0)) 0) = 0)) → (¬ ((lg_cmp ((J x0 1) &&& (J x1 1)) 0) = 0)) → P (.inl (some (.int 1)), (am_SH, I, J, Pf), k, n)) : am_go sc d 86 (0, [some (.ref x0), some (.ref x1)], [], (am_SH, I, J, Pf), k, n) P := by
  refine am_s_aload_n rfl dc86_0.1.1.1 ?_
  refine am_x_getJ (x := J x0 0) dc86_0.1.1.2 rfl hx0 rfl rfl ?_
  refine am_s_aload_n rfl dc86_0.1.2.1 ?_
  refine am_x_getJ (x := J x1 0) dc86_0.1.2.2 rfl hx1 rfl rfl ?_
  refine am_s_land dc86_0.2.1.1 ?_
  refine am_s_lconst (x := 0) (by decide) dc86_0.2.1.2 ?_
  refine am_s_lcmp dc86_0.2.2.1 ?_
  refine am_s_if_ne dc86_0.2.2.2 rfl (fun c1 => ?_) (fun c1 => ?_)
  · refine am_s_iconst am_cc1 dc86_2.1.1 ?_
    refine am_s_goto rfl dc86_2.1.2 ?_
    exact am_s_zreturn dc86_2.2.2 rfl (by decide) (q1 c1)
  · refine am_s_aload_n rfl dc86_1.1.1.1 ?_
    refine am_x_getJ (x := J x0 1) dc86_1.1.1.2 rfl hx0 rfl rfl ?_
    refine am_s_aload_n rfl dc86_1.1.2.1 ?_
    refine am_x_getJ (x := J x1 1) dc86_1.1.2.2 rfl hx1 rfl rfl ?_
    refine am_s_land dc86_1.2.1.1 ?_
    refine am_s_lconst (x := 0) (by decide) dc86_1.2.1.2 ?_
    refine am_s_lcmp dc86_1.2.2.1 ?_
    refine am_s_if_eq dc86_1.2.2.2 rfl (fun c2 => ?_) (fun c2 => ?_)
    · refine am_s_iconst am_cc0 dc86_2.2.1 ?_
      exact am_s_zreturn dc86_2.2.2 rfl (by decide) (q2 c1 c2)
    · refine am_s_iconst am_cc1 dc86_2.1.1 ?_
      refine am_s_goto rfl dc86_2.1.2 ?_
      exact am_s_zreturn dc86_2.2.2 rfl (by decide) (q3 c1 c2)
-- least ()I
theorem dc87_0 : (((decode (am_by 87) 0 = .ok (.bipush 32, 2)) ∧ (decode (am_by 87) 2 = .ok (.istore_n 1, 1))) ∧ ((decode (am_by 87) 3 = .ok (.iload_n 1, 1)) ∧ (decode (am_by 87) 4 = .ok (.bipush 126, 2)))) ∧ (((decode (am_by 87) 6 = .ok (.if_icmp .gt 19, 3)) ∧ (decode (am_by 87) 9 = .ok (.aload_n 0, 1))) ∧ ((decode (am_by 87) 10 = .ok (.iload_n 1, 1)) ∧ (decode (am_by 87) 11 = .ok (.invokevirtual 28, 3)))) := by decide +kernel
theorem dc87_1 : ((decode (am_by 87) 14 = .ok (.ifCond .eq 5, 3)) ∧ ((decode (am_by 87) 17 = .ok (.iload_n 1, 1)) ∧ (decode (am_by 87) 18 = .ok (.ireturn, 1)))) ∧ (((decode (am_by 87) 19 = .ok (.iinc 1 1, 3)) ∧ (decode (am_by 87) 22 = .ok (.goto (-19), 3))) ∧ ((decode (am_by 87) 25 = .ok (.iconst (-1), 1)) ∧ (decode (am_by 87) 26 = .ok (.ireturn, 1)))) := by decide +kernel
theorem t87_0 {sc : Option (Nat × (Nat → Int32))} {d k n : Nat} {P : am_O → Prop} {I : am_I} {J : am_J} {Pf : am_R} (hp : am_PF Pf) {x0 : Nat} (hx0 : am_SH[x0]? = some (.inl 6)) {l1 : Option Value} (q1 : am_go sc d 87 (3, [some (.ref x0), some (.int 32)], [], (am_SH, I, J, Pf), k, n) P) : am_go sc d 87 (0, [some (.ref x0), l1], [], (am_SH, I, J, Pf), k, n) P := by
  refine am_s_bipush am_cb32 dc87_0.1.1.1 ?_
  refine am_s_istore_n (ls' := [some (.ref x0), some (.int 32)]) rfl rfl dc87_0.1.1.2 ?_
  exact q1
theorem t87_3 {sc : Option (Nat × (Nat → Int32))} {d k n : Nat} {P : am_O → Prop} {I : am_I} {J : am_J} {Pf : am_R} (hp : am_PF Pf) {x0 : Nat} (hx0 : am_SH[x0]? = some (.inl 6)) {x1 : Int32} (q1 : (126 < x1) → P (.inl (some (.int (-1))), (am_SH, I, J, Pf), k, n)) (q2 : (¬ (126 < x1)) → am_mth d 78 [.ref x0, .int x1] (am_SH, I, J, Pf) (am_af sc d 87 11 [some (.ref x0), some (.int x1)] [.int x1, .ref x0] [] (am_SH, I, J, Pf) k n true P)) : am_go sc d 87 (3, [some (.ref x0), some (.int x1)], [], (am_SH, I, J, Pf), k, n) P := by
  refine am_s_iload_n rfl dc87_0.1.2.1 ?_
  refine am_s_bipush am_cb126 dc87_0.1.2.2 ?_
  refine am_s_ic_gt dc87_0.2.1.1 rfl (fun c1 => ?_) (fun c1 => ?_)
  · refine am_s_iconst am_ccm1 dc87_1.2.2.1 ?_
    exact am_s_ireturn dc87_1.2.2.2 rfl (q1 c1)
  · refine am_s_aload_n rfl dc87_0.2.1.2 ?_
    refine am_s_iload_n rfl dc87_0.2.2.1 ?_
    exact am_s_virtual true dc87_0.2.2.2 rfl (by decide) rfl hx0 rfl (q2 c1)
theorem t87_14 {sc : Option (Nat × (Nat → Int32))} {d k n : Nat} {P : am_O → Prop} {I : am_I} {J : am_J} {Pf : am_R} (hp : am_PF Pf) {x0 : Nat} (hx0 : am_SH[x0]? = some (.inl 6)) {x1 : Int32} {s0 : Int32} (q1 : (s0 = 0) → am_go sc d 87 (3, [some (.ref x0), some (.int (x1 + 1))], [], (am_SH, I, J, Pf), k, n) P) (q2 : (¬ (s0 = 0)) → P (.inl (some (.int x1)), (am_SH, I, J, Pf), k, n)) : am_go sc d 87 (14, [some (.ref x0), some (.int x1)], [.int s0], (am_SH, I, J, Pf), k, n) P := by
  refine am_s_if_eq dc87_1.1.1 rfl (fun c1 => ?_) (fun c1 => ?_)
  · refine am_s_iinc (ls' := [some (.ref x0), some (.int (x1 + 1))]) am_cc1 rfl rfl dc87_1.2.1.1 ?_
    refine am_s_goto rfl dc87_1.2.1.2 ?_
    exact q1 c1
  · refine am_s_iload_n rfl dc87_1.1.2.1 ?_
    exact am_s_ireturn dc87_1.1.2.2 rfl (q2 c1)
-- greatest ()I
theorem dc88_0 : (((decode (am_by 88) 0 = .ok (.bipush 126, 2)) ∧ (decode (am_by 88) 2 = .ok (.istore_n 1, 1))) ∧ ((decode (am_by 88) 3 = .ok (.iload_n 1, 1)) ∧ (decode (am_by 88) 4 = .ok (.bipush 32, 2)))) ∧ (((decode (am_by 88) 6 = .ok (.if_icmp .lt 19, 3)) ∧ (decode (am_by 88) 9 = .ok (.aload_n 0, 1))) ∧ ((decode (am_by 88) 10 = .ok (.iload_n 1, 1)) ∧ (decode (am_by 88) 11 = .ok (.invokevirtual 28, 3)))) := by decide +kernel
theorem dc88_1 : ((decode (am_by 88) 14 = .ok (.ifCond .eq 5, 3)) ∧ ((decode (am_by 88) 17 = .ok (.iload_n 1, 1)) ∧ (decode (am_by 88) 18 = .ok (.ireturn, 1)))) ∧ (((decode (am_by 88) 19 = .ok (.iinc 1 (-1), 3)) ∧ (decode (am_by 88) 22 = .ok (.goto (-19), 3))) ∧ ((decode (am_by 88) 25 = .ok (.iconst (-1), 1)) ∧ (decode (am_by 88) 26 = .ok (.ireturn, 1)))) := by decide +kernel
theorem t88_0 {sc : Option (Nat × (Nat → Int32))} {d k n : Nat} {P : am_O → Prop} {I : am_I} {J : am_J} {Pf : am_R} (hp : am_PF Pf) {x0 : Nat} (hx0 : am_SH[x0]? = some (.inl 6)) {l1 : Option Value} (q1 : am_go sc d 88 (3, [some (.ref x0), some (.int 126)], [], (am_SH, I, J, Pf), k, n) P) : am_go sc d 88 (0, [some (.ref x0), l1], [], (am_SH, I, J, Pf), k, n) P := by
  refine am_s_bipush am_cb126 dc88_0.1.1.1 ?_
  refine am_s_istore_n (ls' := [some (.ref x0), some (.int 126)]) rfl rfl dc88_0.1.1.2 ?_
  exact q1
theorem t88_3 {sc : Option (Nat × (Nat → Int32))} {d k n : Nat} {P : am_O → Prop} {I : am_I} {J : am_J} {Pf : am_R} (hp : am_PF Pf) {x0 : Nat} (hx0 : am_SH[x0]? = some (.inl 6)) {x1 : Int32} (q1 : (x1 < 32) → P (.inl (some (.int (-1))), (am_SH, I, J, Pf), k, n)) (q2 : (¬ (x1 < 32)) → am_mth d 78 [.ref x0, .int x1] (am_SH, I, J, Pf) (am_af sc d 88 11 [some (.ref x0), some (.int x1)] [.int x1, .ref x0] [] (am_SH, I, J, Pf) k n true P)) : am_go sc d 88 (3, [some (.ref x0), some (.int x1)], [], (am_SH, I, J, Pf), k, n) P := by
  refine am_s_iload_n rfl dc88_0.1.2.1 ?_
  refine am_s_bipush am_cb32 dc88_0.1.2.2 ?_
  refine am_s_ic_lt dc88_0.2.1.1 rfl (fun c1 => ?_) (fun c1 => ?_)
  · refine am_s_iconst am_ccm1 dc88_1.2.2.1 ?_
    exact am_s_ireturn dc88_1.2.2.2 rfl (q1 c1)
  · refine am_s_aload_n rfl dc88_0.2.1.2 ?_
    refine am_s_iload_n rfl dc88_0.2.2.1 ?_
    exact am_s_virtual true dc88_0.2.2.2 rfl (by decide) rfl hx0 rfl (q2 c1)
theorem t88_14 {sc : Option (Nat × (Nat → Int32))} {d k n : Nat} {P : am_O → Prop} {I : am_I} {J : am_J} {Pf : am_R} (hp : am_PF Pf) {x0 : Nat} (hx0 : am_SH[x0]? = some (.inl 6)) {x1 : Int32} {s0 : Int32} (q1 : (s0 = 0) → am_go sc d 88 (3, [some (.ref x0), some (.int (x1 + (-1)))], [], (am_SH, I, J, Pf), k, n) P) (q2 : (¬ (s0 = 0)) → P (.inl (some (.int x1)), (am_SH, I, J, Pf), k, n)) : am_go sc d 88 (14, [some (.ref x0), some (.int x1)], [.int s0], (am_SH, I, J, Pf), k, n) P := by
  refine am_s_if_eq dc88_1.1.1 rfl (fun c1 => ?_) (fun c1 => ?_)
  · refine am_s_iinc (ls' := [some (.ref x0), some (.int (x1 + (-1)))]) am_ccm1 rfl rfl dc88_1.2.1.1 ?_
    refine am_s_goto rfl dc88_1.2.1.2 ?_
    exact q1 c1
  · refine am_s_iload_n rfl dc88_1.1.2.1 ?_
    exact am_s_ireturn dc88_1.1.2.2 rfl (q2 c1)
-- stretches ()I
theorem dc89_0 : (((decode (am_by 89) 0 = .ok (.iconst 0, 1)) ∧ (decode (am_by 89) 1 = .ok (.istore_n 1, 1))) ∧ ((decode (am_by 89) 2 = .ok (.bipush 32, 2)) ∧ (decode (am_by 89) 4 = .ok (.istore_n 2, 1)))) ∧ (((decode (am_by 89) 5 = .ok (.iload_n 2, 1)) ∧ (decode (am_by 89) 6 = .ok (.bipush 126, 2))) ∧ ((decode (am_by 89) 8 = .ok (.if_icmp .gt 30, 3)) ∧ (decode (am_by 89) 11 = .ok (.aload_n 0, 1)))) := by decide +kernel
theorem dc89_1 : (((decode (am_by 89) 12 = .ok (.iload_n 2, 1)) ∧ (decode (am_by 89) 13 = .ok (.invokevirtual 28, 3))) ∧ ((decode (am_by 89) 16 = .ok (.ifCond .eq 16, 3)) ∧ (decode (am_by 89) 19 = .ok (.aload_n 0, 1)))) ∧ (((decode (am_by 89) 20 = .ok (.iload_n 2, 1)) ∧ (decode (am_by 89) 21 = .ok (.iconst 1, 1))) ∧ ((decode (am_by 89) 22 = .ok (.isub, 1)) ∧ (decode (am_by 89) 23 = .ok (.invokevirtual 28, 3)))) := by decide +kernel
theorem dc89_2 : ((decode (am_by 89) 26 = .ok (.ifCond .ne 6, 3)) ∧ ((decode (am_by 89) 29 = .ok (.iinc 1 1, 3)) ∧ (decode (am_by 89) 32 = .ok (.iinc 2 1, 3)))) ∧ ((decode (am_by 89) 35 = .ok (.goto (-30), 3)) ∧ ((decode (am_by 89) 38 = .ok (.iload_n 1, 1)) ∧ (decode (am_by 89) 39 = .ok (.ireturn, 1)))) := by decide +kernel
theorem t89_0 {sc : Option (Nat × (Nat → Int32))} {d k n : Nat} {P : am_O → Prop} {I : am_I} {J : am_J} {Pf : am_R} (hp : am_PF Pf) {x0 : Nat} (hx0 : am_SH[x0]? = some (.inl 6)) {l1 : Option Value} {l2 : Option Value} (q1 : am_go sc d 89 (5, [some (.ref x0), some (.int 0), some (.int 32)], [], (am_SH, I, J, Pf), k, n) P) : am_go sc d 89 (0, [some (.ref x0), l1, l2], [], (am_SH, I, J, Pf), k, n) P := by
  refine am_s_iconst am_cc0 dc89_0.1.1.1 ?_
  refine am_s_istore_n (ls' := [some (.ref x0), some (.int 0), l2]) rfl rfl dc89_0.1.1.2 ?_
  refine am_s_bipush am_cb32 dc89_0.1.2.1 ?_
  refine am_s_istore_n (ls' := [some (.ref x0), some (.int 0), some (.int 32)]) rfl rfl dc89_0.1.2.2 ?_
  exact q1
theorem t89_5 {sc : Option (Nat × (Nat → Int32))} {d k n : Nat} {P : am_O → Prop} {I : am_I} {J : am_J} {Pf : am_R} (hp : am_PF Pf) {x0 : Nat} (hx0 : am_SH[x0]? = some (.inl 6)) {x1 : Int32} {x2 : Int32} (q1 : (126 < x2) → P (.inl (some (.int x1)), (am_SH, I, J, Pf), k, n)) (q2 : (¬ (126 < x2)) → am_mth d 78 [.ref x0, .int x2] (am_SH, I, J, Pf) (am_af sc d 89 13 [some (.ref x0), some (.int x1), some (.int x2)] [.int x2, .ref x0] [] (am_SH, I, J, Pf) k n true P)) : am_go sc d 89 (5, [some (.ref x0), some (.int x1), some (.int x2)], [], (am_SH, I, J, Pf), k, n) P := by
  refine am_s_iload_n rfl dc89_0.2.1.1 ?_
  refine am_s_bipush am_cb126 dc89_0.2.1.2 ?_
  refine am_s_ic_gt dc89_0.2.2.1 rfl (fun c1 => ?_) (fun c1 => ?_)
  · refine am_s_iload_n rfl dc89_2.2.2.1 ?_
    exact am_s_ireturn dc89_2.2.2.2 rfl (q1 c1)
  · refine am_s_aload_n rfl dc89_0.2.2.2 ?_
    refine am_s_iload_n rfl dc89_1.1.1.1 ?_
    exact am_s_virtual true dc89_1.1.1.2 rfl (by decide) rfl hx0 rfl (q2 c1)
theorem t89_16 {sc : Option (Nat × (Nat → Int32))} {d k n : Nat} {P : am_O → Prop} {I : am_I} {J : am_J} {Pf : am_R} (hp : am_PF Pf) {x0 : Nat} (hx0 : am_SH[x0]? = some (.inl 6)) {x1 : Int32} {x2 : Int32} {s0 : Int32} (q1 : (s0 = 0) → am_go sc d 89 (5, [some (.ref x0), some (.int x1), some (.int (x2 + 1))], [], (am_SH, I, J, Pf), k, n) P) (q2 : (¬ (s0 = 0)) → am_mth d 78 [.ref x0, .int (x2 - 1)] (am_SH, I, J, Pf) (am_af sc d 89 23 [some (.ref x0), some (.int x1), some (.int x2)] [.int (x2 - 1), .ref x0] [] (am_SH, I, J, Pf) k n true P)) : am_go sc d 89 (16, [some (.ref x0), some (.int x1), some (.int x2)], [.int s0], (am_SH, I, J, Pf), k, n) P := by
  refine am_s_if_eq dc89_1.1.2.1 rfl (fun c1 => ?_) (fun c1 => ?_)
  · refine am_s_iinc (ls' := [some (.ref x0), some (.int x1), some (.int (x2 + 1))]) am_cc1 rfl rfl dc89_2.1.2.2 ?_
    refine am_s_goto rfl dc89_2.2.1 ?_
    exact q1 c1
  · refine am_s_aload_n rfl dc89_1.1.2.2 ?_
    refine am_s_iload_n rfl dc89_1.2.1.1 ?_
    refine am_s_iconst am_cc1 dc89_1.2.1.2 ?_
    refine am_s_isub dc89_1.2.2.1 ?_
    exact am_s_virtual true dc89_1.2.2.2 rfl (by decide) rfl hx0 rfl (q2 c1)
theorem t89_26 {sc : Option (Nat × (Nat → Int32))} {d k n : Nat} {P : am_O → Prop} {I : am_I} {J : am_J} {Pf : am_R} (hp : am_PF Pf) {x0 : Nat} (hx0 : am_SH[x0]? = some (.inl 6)) {x1 : Int32} {x2 : Int32} {s0 : Int32} (q1 : (¬ s0 = 0) → am_go sc d 89 (5, [some (.ref x0), some (.int x1), some (.int (x2 + 1))], [], (am_SH, I, J, Pf), k, n) P) (q2 : (¬ (¬ s0 = 0)) → am_go sc d 89 (5, [some (.ref x0), some (.int (x1 + 1)), some (.int (x2 + 1))], [], (am_SH, I, J, Pf), k, n) P) : am_go sc d 89 (26, [some (.ref x0), some (.int x1), some (.int x2)], [.int s0], (am_SH, I, J, Pf), k, n) P := by
  refine am_s_if_ne dc89_2.1.1 rfl (fun c1 => ?_) (fun c1 => ?_)
  · refine am_s_iinc (ls' := [some (.ref x0), some (.int x1), some (.int (x2 + 1))]) am_cc1 rfl rfl dc89_2.1.2.2 ?_
    refine am_s_goto rfl dc89_2.2.1 ?_
    exact q1 c1
  · refine am_s_iinc (ls' := [some (.ref x0), some (.int (x1 + 1)), some (.int x2)]) am_cc1 rfl rfl dc89_2.1.2.1 ?_
    refine am_s_iinc (ls' := [some (.ref x0), some (.int (x1 + 1)), some (.int (x2 + 1))]) am_cc1 rfl rfl dc89_2.1.2.2 ?_
    refine am_s_goto rfl dc89_2.2.1 ?_
    exact q2 c1
