/-! The class is made, 1 -/
theorem kc50_2 {D : Nat} {P : am_O → Prop} (hD : 1 ≤ D) (kk : P (.inl none, (am_SH.take 3, kI kB1 (kV1.take 1), kJ, kR 1), 1, 600)) : am_mth D 50 [.ref 1] (am_SH.take 2, kI kB1 (kV1.take 0), kJ, kR 0) P := by
  obtain ⟨d, rfl⟩ : ∃ d, D = d + 1 := ⟨D - 1, by omega⟩
  refine am_mth_of rfl rfl ?_
  show am_go none d 50 (0, [some (.ref 1)], [], (am_SH.take 2, kI kB1 (kV1.take 0), kJ, kR 0), 0, 0) P
  refine am_s_aload_n rfl dc50_0.1.1.1 ?_
  refine am_s_objinit dc50_0.1.1.2 rfl rfl ?_
  refine am_s_aload_n rfl dc50_0.1.2.1 ?_
  refine am_s_sipush (x := 600) (by decide) dc50_0.1.2.2 ?_
  refine kb_newarray (k2 := 1) (n2 := 600) (L := 600) dc50_0.2.1.1 rfl rfl (by decide +kernel) kZ1 (by decide +kernel) (by decide +kernel) (by decide) rfl rfl ?_
  refine kb_putR dc50_0.2.1.2 rfl (kS rfl (by decide)) rfl rfl (by decide +kernel) (by decide +kernel) ?_
  refine am_s_aload_n rfl dc50_0.2.2.1 ?_
  refine am_s_iconst (x := (-1)) (by decide) dc50_0.2.2.2 ?_
  refine kb_putI dc50_1.1 rfl (kS rfl (by decide)) rfl rfl (by decide +kernel) ?_
  exact am_s_return dc50_1.2 rfl kk
theorem kc74_4 {D : Nat} {P : am_O → Prop} (hD : 1 ≤ D) (kk : P (.inl none, (am_SH.take 9, kI kB1 (kV1.take 1), kJ, kR 6), 0, 0)) : am_mth D 74 [.ref 8] (am_SH.take 9, kI kB1 (kV1.take 1), kJ, kR 6) P := by
  obtain ⟨d, rfl⟩ : ∃ d, D = d + 1 := ⟨D - 1, by omega⟩
  refine am_mth_of rfl rfl ?_
  show am_go none d 74 (0, [some (.ref 8)], [], (am_SH.take 9, kI kB1 (kV1.take 1), kJ, kR 6), 0, 0) P
  refine am_s_aload_n rfl dc74_0.1 ?_
  refine am_s_objinit dc74_0.2.1 rfl rfl ?_
  exact am_s_return dc74_0.2.2 rfl kk
theorem kc74_5 {D : Nat} {P : am_O → Prop} (hD : 1 ≤ D) (kk : P (.inl none, (am_SH.take 10, kI kB1 (kV1.take 1), kJ, kR 7), 0, 0)) : am_mth D 74 [.ref 9] (am_SH.take 10, kI kB1 (kV1.take 1), kJ, kR 7) P := by
  obtain ⟨d, rfl⟩ : ∃ d, D = d + 1 := ⟨D - 1, by omega⟩
  refine am_mth_of rfl rfl ?_
  show am_go none d 74 (0, [some (.ref 9)], [], (am_SH.take 10, kI kB1 (kV1.take 1), kJ, kR 7), 0, 0) P
  refine am_s_aload_n rfl dc74_0.1 ?_
  refine am_s_objinit dc74_0.2.1 rfl rfl ?_
  exact am_s_return dc74_0.2.2 rfl kk
theorem kc74_6 {D : Nat} {P : am_O → Prop} (hD : 1 ≤ D) (kk : P (.inl none, (am_SH.take 11, kI kB1 (kV1.take 1), kJ, kR 8), 0, 0)) : am_mth D 74 [.ref 10] (am_SH.take 11, kI kB1 (kV1.take 1), kJ, kR 8) P := by
  obtain ⟨d, rfl⟩ : ∃ d, D = d + 1 := ⟨D - 1, by omega⟩
  refine am_mth_of rfl rfl ?_
  show am_go none d 74 (0, [some (.ref 10)], [], (am_SH.take 11, kI kB1 (kV1.take 1), kJ, kR 8), 0, 0) P
  refine am_s_aload_n rfl dc74_0.1 ?_
  refine am_s_objinit dc74_0.2.1 rfl rfl ?_
  exact am_s_return dc74_0.2.2 rfl kk
theorem kc74_7 {D : Nat} {P : am_O → Prop} (hD : 1 ≤ D) (kk : P (.inl none, (am_SH.take 12, kI kB1 (kV1.take 1), kJ, kR 9), 0, 0)) : am_mth D 74 [.ref 11] (am_SH.take 12, kI kB1 (kV1.take 1), kJ, kR 9) P := by
  obtain ⟨d, rfl⟩ : ∃ d, D = d + 1 := ⟨D - 1, by omega⟩
  refine am_mth_of rfl rfl ?_
  show am_go none d 74 (0, [some (.ref 11)], [], (am_SH.take 12, kI kB1 (kV1.take 1), kJ, kR 9), 0, 0) P
  refine am_s_aload_n rfl dc74_0.1 ?_
  refine am_s_objinit dc74_0.2.1 rfl rfl ?_
  exact am_s_return dc74_0.2.2 rfl kk
theorem kc74_8 {D : Nat} {P : am_O → Prop} (hD : 1 ≤ D) (kk : P (.inl none, (am_SH.take 13, kI kB1 (kV1.take 1), kJ, kR 10), 0, 0)) : am_mth D 74 [.ref 12] (am_SH.take 13, kI kB1 (kV1.take 1), kJ, kR 10) P := by
  obtain ⟨d, rfl⟩ : ∃ d, D = d + 1 := ⟨D - 1, by omega⟩
  refine am_mth_of rfl rfl ?_
  show am_go none d 74 (0, [some (.ref 12)], [], (am_SH.take 13, kI kB1 (kV1.take 1), kJ, kR 10), 0, 0) P
  refine am_s_aload_n rfl dc74_0.1 ?_
  refine am_s_objinit dc74_0.2.1 rfl rfl ?_
  exact am_s_return dc74_0.2.2 rfl kk
theorem kc74_9 {D : Nat} {P : am_O → Prop} (hD : 1 ≤ D) (kk : P (.inl none, (am_SH.take 14, kI kB1 (kV1.take 1), kJ, kR 11), 0, 0)) : am_mth D 74 [.ref 13] (am_SH.take 14, kI kB1 (kV1.take 1), kJ, kR 11) P := by
  obtain ⟨d, rfl⟩ : ∃ d, D = d + 1 := ⟨D - 1, by omega⟩
  refine am_mth_of rfl rfl ?_
  show am_go none d 74 (0, [some (.ref 13)], [], (am_SH.take 14, kI kB1 (kV1.take 1), kJ, kR 11), 0, 0) P
  refine am_s_aload_n rfl dc74_0.1 ?_
  refine am_s_objinit dc74_0.2.1 rfl rfl ?_
  exact am_s_return dc74_0.2.2 rfl kk
theorem kc74_10 {D : Nat} {P : am_O → Prop} (hD : 1 ≤ D) (kk : P (.inl none, (am_SH.take 15, kI kB1 (kV1.take 1), kJ, kR 12), 0, 0)) : am_mth D 74 [.ref 14] (am_SH.take 15, kI kB1 (kV1.take 1), kJ, kR 12) P := by
  obtain ⟨d, rfl⟩ : ∃ d, D = d + 1 := ⟨D - 1, by omega⟩
  refine am_mth_of rfl rfl ?_
  show am_go none d 74 (0, [some (.ref 14)], [], (am_SH.take 15, kI kB1 (kV1.take 1), kJ, kR 12), 0, 0) P
  refine am_s_aload_n rfl dc74_0.1 ?_
  refine am_s_objinit dc74_0.2.1 rfl rfl ?_
  exact am_s_return dc74_0.2.2 rfl kk
theorem kc74_11 {D : Nat} {P : am_O → Prop} (hD : 1 ≤ D) (kk : P (.inl none, (am_SH.take 16, kI kB1 (kV1.take 1), kJ, kR 13), 0, 0)) : am_mth D 74 [.ref 15] (am_SH.take 16, kI kB1 (kV1.take 1), kJ, kR 13) P := by
  obtain ⟨d, rfl⟩ : ∃ d, D = d + 1 := ⟨D - 1, by omega⟩
  refine am_mth_of rfl rfl ?_
  show am_go none d 74 (0, [some (.ref 15)], [], (am_SH.take 16, kI kB1 (kV1.take 1), kJ, kR 13), 0, 0) P
  refine am_s_aload_n rfl dc74_0.1 ?_
  refine am_s_objinit dc74_0.2.1 rfl rfl ?_
  exact am_s_return dc74_0.2.2 rfl kk
theorem kc20_3 {D : Nat} {P : am_O → Prop} (hD : 2 ≤ D) (kk : P (.inl none, (am_SH.take 16, kI kB1 (kV1.take 1), kJ, kR 14), 12, 48)) : am_mth D 20 [.ref 3] (am_SH.take 4, kI kB1 (kV1.take 1), kJ, kR 2) P := by
  obtain ⟨d, rfl⟩ : ∃ d, D = d + 1 := ⟨D - 1, by omega⟩
  refine am_mth_of rfl rfl ?_
  show am_go none d 20 (0, [some (.ref 3), none], [], (am_SH.take 4, kI kB1 (kV1.take 1), kJ, kR 2), 0, 0) P
  refine am_s_aload_n rfl dc20_0.1.1.1 ?_
  refine am_s_objinit dc20_0.1.1.2 rfl rfl ?_
  refine am_s_aload_n rfl dc20_0.1.2.1 ?_
  refine am_s_bipush (x := 8) (by decide) dc20_0.1.2.2 ?_
  refine kb_anewarray (k2 := 1) (n2 := 8) (L := 8) dc20_0.2.1.1 rfl rfl rfl (by decide +kernel) kZ1 (by decide +kernel) (by decide +kernel) (by decide) rfl rfl ?_
  refine kb_putR dc20_0.2.1.2 rfl (kS rfl (by decide)) rfl rfl (by decide +kernel) (by decide +kernel) ?_
  refine am_s_aload_n rfl dc20_0.2.2.1 ?_
  refine am_s_bipush (x := 8) (by decide) dc20_0.2.2.2 ?_
  refine kb_newarray (k2 := 2) (n2 := 16) (L := 8) dc20_1.1.1.1 rfl rfl (by decide +kernel) kZ1 (by decide +kernel) (by decide +kernel) (by decide) rfl rfl ?_
  refine kb_putR dc20_1.1.1.2 rfl (kS rfl (by decide)) rfl rfl (by decide +kernel) (by decide +kernel) ?_
  refine am_s_aload_n rfl dc20_1.1.2.1 ?_
  refine am_s_bipush (x := 8) (by decide) dc20_1.1.2.2 ?_
  refine kb_newarray (k2 := 3) (n2 := 24) (L := 8) dc20_1.2.1.1 rfl rfl (by decide +kernel) kZ1 (by decide +kernel) (by decide +kernel) (by decide) rfl rfl ?_
  refine kb_putR dc20_1.2.1.2 rfl (kS rfl (by decide)) rfl rfl (by decide +kernel) (by decide +kernel) ?_
  refine am_s_aload_n rfl dc20_1.2.2.1 ?_
  refine am_s_bipush (x := 8) (by decide) dc20_1.2.2.2 ?_
  refine kb_newarray (k2 := 4) (n2 := 32) (L := 8) dc20_2.1.1.1 rfl rfl (by decide +kernel) kZ1 (by decide +kernel) (by decide +kernel) (by decide) rfl rfl ?_
  refine kb_putR dc20_2.1.1.2 rfl (kS rfl (by decide)) rfl rfl (by decide +kernel) (by decide +kernel) ?_
  refine am_s_iconst (x := 0) (by decide) dc20_2.1.2.1 ?_
  refine am_s_istore_n (ls' := [some (.ref 3), some (.int 0)]) rfl rfl dc20_2.1.2.2 ?_
  refine am_s_iload_n rfl dc20_2.2.1.1 ?_
  refine am_s_aload_n rfl dc20_2.2.1.2 ?_
  refine am_s_getR (r := 4) dc20_2.2.2.1 rfl (kS rfl (by decide)) rfl (by decide +kernel) ?_
  refine am_s_lenq (x := 8) dc20_2.2.2.2 (kS rfl (by decide)) rfl rfl (by decide +kernel) ?_
  refine am_s_ic_ge dc20_3.1.1.1 rfl (fun z => absurd z (by decide)) (fun _ => ?_)
  refine am_s_aload_n rfl dc20_3.1.1.2 ?_
  refine am_s_getR (r := 4) dc20_3.1.2.1 rfl (kS rfl (by decide)) rfl (by decide +kernel) ?_
  refine am_s_iload_n rfl dc20_3.1.2.2 ?_
  refine kb_new (k2 := 5) (n2 := 34) (m := 2) dc20_3.2.1.1 rfl rfl (by decide +kernel) kZ1 (by decide +kernel) (by decide +kernel) rfl rfl rfl ?_
  refine am_s_dup rfl dc20_3.2.1.2 ?_
  refine am_s_init dc20_3.2.2.1 rfl rfl rfl rfl (kc74_4 (by omega) (kb_back (k2 := 5) (n2 := 34) (by decide +kernel) rfl rfl ?_))
  refine kb_aastore (m := 0) dc20_3.2.2.2 (kS rfl (by decide)) rfl (kS rfl (by decide)) (by decide) (by decide) (by decide +kernel) ?_
  refine kb_iinc (ls' := [some (.ref 3), some (.int 1)]) (c := 1) (x2 := 1) (by decide) (by decide) rfl rfl dc20_4.1 ?_
  refine am_s_goto rfl dc20_4.2.1 ?_
  refine am_s_iload_n rfl dc20_2.2.1.1 ?_
  refine am_s_aload_n rfl dc20_2.2.1.2 ?_
  refine am_s_getR (r := 4) dc20_2.2.2.1 rfl (kS rfl (by decide)) rfl (by decide +kernel) ?_
  refine am_s_lenq (x := 8) dc20_2.2.2.2 (kS rfl (by decide)) rfl rfl (by decide +kernel) ?_
  refine am_s_ic_ge dc20_3.1.1.1 rfl (fun z => absurd z (by decide)) (fun _ => ?_)
  refine am_s_aload_n rfl dc20_3.1.1.2 ?_
  refine am_s_getR (r := 4) dc20_3.1.2.1 rfl (kS rfl (by decide)) rfl (by decide +kernel) ?_
  refine am_s_iload_n rfl dc20_3.1.2.2 ?_
  refine kb_new (k2 := 6) (n2 := 36) (m := 2) dc20_3.2.1.1 rfl rfl (by decide +kernel) kZ1 (by decide +kernel) (by decide +kernel) rfl rfl rfl ?_
  refine am_s_dup rfl dc20_3.2.1.2 ?_
  refine am_s_init dc20_3.2.2.1 rfl rfl rfl rfl (kc74_5 (by omega) (kb_back (k2 := 6) (n2 := 36) (by decide +kernel) rfl rfl ?_))
  refine kb_aastore (m := 1) dc20_3.2.2.2 (kS rfl (by decide)) rfl (kS rfl (by decide)) (by decide) (by decide) (by decide +kernel) ?_
  refine kb_iinc (ls' := [some (.ref 3), some (.int 2)]) (c := 1) (x2 := 2) (by decide) (by decide) rfl rfl dc20_4.1 ?_
  refine am_s_goto rfl dc20_4.2.1 ?_
  refine am_s_iload_n rfl dc20_2.2.1.1 ?_
  refine am_s_aload_n rfl dc20_2.2.1.2 ?_
  refine am_s_getR (r := 4) dc20_2.2.2.1 rfl (kS rfl (by decide)) rfl (by decide +kernel) ?_
  refine am_s_lenq (x := 8) dc20_2.2.2.2 (kS rfl (by decide)) rfl rfl (by decide +kernel) ?_
  refine am_s_ic_ge dc20_3.1.1.1 rfl (fun z => absurd z (by decide)) (fun _ => ?_)
  refine am_s_aload_n rfl dc20_3.1.1.2 ?_
  refine am_s_getR (r := 4) dc20_3.1.2.1 rfl (kS rfl (by decide)) rfl (by decide +kernel) ?_
  refine am_s_iload_n rfl dc20_3.1.2.2 ?_
  refine kb_new (k2 := 7) (n2 := 38) (m := 2) dc20_3.2.1.1 rfl rfl (by decide +kernel) kZ1 (by decide +kernel) (by decide +kernel) rfl rfl rfl ?_
  refine am_s_dup rfl dc20_3.2.1.2 ?_
  refine am_s_init dc20_3.2.2.1 rfl rfl rfl rfl (kc74_6 (by omega) (kb_back (k2 := 7) (n2 := 38) (by decide +kernel) rfl rfl ?_))
  refine kb_aastore (m := 2) dc20_3.2.2.2 (kS rfl (by decide)) rfl (kS rfl (by decide)) (by decide) (by decide) (by decide +kernel) ?_
  refine kb_iinc (ls' := [some (.ref 3), some (.int 3)]) (c := 1) (x2 := 3) (by decide) (by decide) rfl rfl dc20_4.1 ?_
  refine am_s_goto rfl dc20_4.2.1 ?_
  refine am_s_iload_n rfl dc20_2.2.1.1 ?_
  refine am_s_aload_n rfl dc20_2.2.1.2 ?_
  refine am_s_getR (r := 4) dc20_2.2.2.1 rfl (kS rfl (by decide)) rfl (by decide +kernel) ?_
  refine am_s_lenq (x := 8) dc20_2.2.2.2 (kS rfl (by decide)) rfl rfl (by decide +kernel) ?_
  refine am_s_ic_ge dc20_3.1.1.1 rfl (fun z => absurd z (by decide)) (fun _ => ?_)
  refine am_s_aload_n rfl dc20_3.1.1.2 ?_
  refine am_s_getR (r := 4) dc20_3.1.2.1 rfl (kS rfl (by decide)) rfl (by decide +kernel) ?_
  refine am_s_iload_n rfl dc20_3.1.2.2 ?_
  refine kb_new (k2 := 8) (n2 := 40) (m := 2) dc20_3.2.1.1 rfl rfl (by decide +kernel) kZ1 (by decide +kernel) (by decide +kernel) rfl rfl rfl ?_
  refine am_s_dup rfl dc20_3.2.1.2 ?_
  refine am_s_init dc20_3.2.2.1 rfl rfl rfl rfl (kc74_7 (by omega) (kb_back (k2 := 8) (n2 := 40) (by decide +kernel) rfl rfl ?_))
  refine kb_aastore (m := 3) dc20_3.2.2.2 (kS rfl (by decide)) rfl (kS rfl (by decide)) (by decide) (by decide) (by decide +kernel) ?_
  refine kb_iinc (ls' := [some (.ref 3), some (.int 4)]) (c := 1) (x2 := 4) (by decide) (by decide) rfl rfl dc20_4.1 ?_
  refine am_s_goto rfl dc20_4.2.1 ?_
  refine am_s_iload_n rfl dc20_2.2.1.1 ?_
  refine am_s_aload_n rfl dc20_2.2.1.2 ?_
  refine am_s_getR (r := 4) dc20_2.2.2.1 rfl (kS rfl (by decide)) rfl (by decide +kernel) ?_
  refine am_s_lenq (x := 8) dc20_2.2.2.2 (kS rfl (by decide)) rfl rfl (by decide +kernel) ?_
  refine am_s_ic_ge dc20_3.1.1.1 rfl (fun z => absurd z (by decide)) (fun _ => ?_)
  refine am_s_aload_n rfl dc20_3.1.1.2 ?_
  refine am_s_getR (r := 4) dc20_3.1.2.1 rfl (kS rfl (by decide)) rfl (by decide +kernel) ?_
  refine am_s_iload_n rfl dc20_3.1.2.2 ?_
  refine kb_new (k2 := 9) (n2 := 42) (m := 2) dc20_3.2.1.1 rfl rfl (by decide +kernel) kZ1 (by decide +kernel) (by decide +kernel) rfl rfl rfl ?_
  refine am_s_dup rfl dc20_3.2.1.2 ?_
  refine am_s_init dc20_3.2.2.1 rfl rfl rfl rfl (kc74_8 (by omega) (kb_back (k2 := 9) (n2 := 42) (by decide +kernel) rfl rfl ?_))
  refine kb_aastore (m := 4) dc20_3.2.2.2 (kS rfl (by decide)) rfl (kS rfl (by decide)) (by decide) (by decide) (by decide +kernel) ?_
  refine kb_iinc (ls' := [some (.ref 3), some (.int 5)]) (c := 1) (x2 := 5) (by decide) (by decide) rfl rfl dc20_4.1 ?_
  refine am_s_goto rfl dc20_4.2.1 ?_
  refine am_s_iload_n rfl dc20_2.2.1.1 ?_
  refine am_s_aload_n rfl dc20_2.2.1.2 ?_
  refine am_s_getR (r := 4) dc20_2.2.2.1 rfl (kS rfl (by decide)) rfl (by decide +kernel) ?_
  refine am_s_lenq (x := 8) dc20_2.2.2.2 (kS rfl (by decide)) rfl rfl (by decide +kernel) ?_
  refine am_s_ic_ge dc20_3.1.1.1 rfl (fun z => absurd z (by decide)) (fun _ => ?_)
  refine am_s_aload_n rfl dc20_3.1.1.2 ?_
  refine am_s_getR (r := 4) dc20_3.1.2.1 rfl (kS rfl (by decide)) rfl (by decide +kernel) ?_
  refine am_s_iload_n rfl dc20_3.1.2.2 ?_
  refine kb_new (k2 := 10) (n2 := 44) (m := 2) dc20_3.2.1.1 rfl rfl (by decide +kernel) kZ1 (by decide +kernel) (by decide +kernel) rfl rfl rfl ?_
  refine am_s_dup rfl dc20_3.2.1.2 ?_
  refine am_s_init dc20_3.2.2.1 rfl rfl rfl rfl (kc74_9 (by omega) (kb_back (k2 := 10) (n2 := 44) (by decide +kernel) rfl rfl ?_))
  refine kb_aastore (m := 5) dc20_3.2.2.2 (kS rfl (by decide)) rfl (kS rfl (by decide)) (by decide) (by decide) (by decide +kernel) ?_
  refine kb_iinc (ls' := [some (.ref 3), some (.int 6)]) (c := 1) (x2 := 6) (by decide) (by decide) rfl rfl dc20_4.1 ?_
  refine am_s_goto rfl dc20_4.2.1 ?_
  refine am_s_iload_n rfl dc20_2.2.1.1 ?_
  refine am_s_aload_n rfl dc20_2.2.1.2 ?_
  refine am_s_getR (r := 4) dc20_2.2.2.1 rfl (kS rfl (by decide)) rfl (by decide +kernel) ?_
  refine am_s_lenq (x := 8) dc20_2.2.2.2 (kS rfl (by decide)) rfl rfl (by decide +kernel) ?_
  refine am_s_ic_ge dc20_3.1.1.1 rfl (fun z => absurd z (by decide)) (fun _ => ?_)
  refine am_s_aload_n rfl dc20_3.1.1.2 ?_
  refine am_s_getR (r := 4) dc20_3.1.2.1 rfl (kS rfl (by decide)) rfl (by decide +kernel) ?_
  refine am_s_iload_n rfl dc20_3.1.2.2 ?_
  refine kb_new (k2 := 11) (n2 := 46) (m := 2) dc20_3.2.1.1 rfl rfl (by decide +kernel) kZ1 (by decide +kernel) (by decide +kernel) rfl rfl rfl ?_
  refine am_s_dup rfl dc20_3.2.1.2 ?_
  refine am_s_init dc20_3.2.2.1 rfl rfl rfl rfl (kc74_10 (by omega) (kb_back (k2 := 11) (n2 := 46) (by decide +kernel) rfl rfl ?_))
  refine kb_aastore (m := 6) dc20_3.2.2.2 (kS rfl (by decide)) rfl (kS rfl (by decide)) (by decide) (by decide) (by decide +kernel) ?_
  refine kb_iinc (ls' := [some (.ref 3), some (.int 7)]) (c := 1) (x2 := 7) (by decide) (by decide) rfl rfl dc20_4.1 ?_
  refine am_s_goto rfl dc20_4.2.1 ?_
  refine am_s_iload_n rfl dc20_2.2.1.1 ?_
  refine am_s_aload_n rfl dc20_2.2.1.2 ?_
  refine am_s_getR (r := 4) dc20_2.2.2.1 rfl (kS rfl (by decide)) rfl (by decide +kernel) ?_
  refine am_s_lenq (x := 8) dc20_2.2.2.2 (kS rfl (by decide)) rfl rfl (by decide +kernel) ?_
  refine am_s_ic_ge dc20_3.1.1.1 rfl (fun z => absurd z (by decide)) (fun _ => ?_)
  refine am_s_aload_n rfl dc20_3.1.1.2 ?_
  refine am_s_getR (r := 4) dc20_3.1.2.1 rfl (kS rfl (by decide)) rfl (by decide +kernel) ?_
  refine am_s_iload_n rfl dc20_3.1.2.2 ?_
  refine kb_new (k2 := 12) (n2 := 48) (m := 2) dc20_3.2.1.1 rfl rfl (by decide +kernel) kZ1 (by decide +kernel) (by decide +kernel) rfl rfl rfl ?_
  refine am_s_dup rfl dc20_3.2.1.2 ?_
  refine am_s_init dc20_3.2.2.1 rfl rfl rfl rfl (kc74_11 (by omega) (kb_back (k2 := 12) (n2 := 48) (by decide +kernel) rfl rfl ?_))
  refine kb_aastore (m := 7) dc20_3.2.2.2 (kS rfl (by decide)) rfl (kS rfl (by decide)) (by decide) (by decide) (by decide +kernel) ?_
  refine kb_iinc (ls' := [some (.ref 3), some (.int 8)]) (c := 1) (x2 := 8) (by decide) (by decide) rfl rfl dc20_4.1 ?_
  refine am_s_goto rfl dc20_4.2.1 ?_
  refine am_s_iload_n rfl dc20_2.2.1.1 ?_
  refine am_s_aload_n rfl dc20_2.2.1.2 ?_
  refine am_s_getR (r := 4) dc20_2.2.2.1 rfl (kS rfl (by decide)) rfl (by decide +kernel) ?_
  refine am_s_lenq (x := 8) dc20_2.2.2.2 (kS rfl (by decide)) rfl rfl (by decide +kernel) ?_
  refine am_s_ic_ge dc20_3.1.1.1 rfl (fun _ => ?_) (fun z => absurd (by decide) z)
  exact am_s_return dc20_4.2.2 rfl kk
theorem kc74_14 {D : Nat} {P : am_O → Prop} (hD : 1 ≤ D) (kk : P (.inl none, (am_SH.take 38, kI kB1 (kV1.take 2), kJ, kR 34), 0, 0)) : am_mth D 74 [.ref 37] (am_SH.take 38, kI kB1 (kV1.take 2), kJ, kR 34) P := by
  obtain ⟨d, rfl⟩ : ∃ d, D = d + 1 := ⟨D - 1, by omega⟩
  refine am_mth_of rfl rfl ?_
  show am_go none d 74 (0, [some (.ref 37)], [], (am_SH.take 38, kI kB1 (kV1.take 2), kJ, kR 34), 0, 0) P
  refine am_s_aload_n rfl dc74_0.1 ?_
  refine am_s_objinit dc74_0.2.1 rfl rfl ?_
  exact am_s_return dc74_0.2.2 rfl kk
theorem kc74_15 {D : Nat} {P : am_O → Prop} (hD : 1 ≤ D) (kk : P (.inl none, (am_SH.take 40, kI kB1 (kV1.take 2), kJ, kR 36), 0, 0)) : am_mth D 74 [.ref 39] (am_SH.take 40, kI kB1 (kV1.take 2), kJ, kR 36) P := by
  obtain ⟨d, rfl⟩ : ∃ d, D = d + 1 := ⟨D - 1, by omega⟩
  refine am_mth_of rfl rfl ?_
  show am_go none d 74 (0, [some (.ref 39)], [], (am_SH.take 40, kI kB1 (kV1.take 2), kJ, kR 36), 0, 0) P
  refine am_s_aload_n rfl dc74_0.1 ?_
  refine am_s_objinit dc74_0.2.1 rfl rfl ?_
  exact am_s_return dc74_0.2.2 rfl kk
theorem kc74_16 {D : Nat} {P : am_O → Prop} (hD : 1 ≤ D) (kk : P (.inl none, (am_SH.take 41, kI kB1 (kV1.take 2), kJ, kR 37), 0, 0)) : am_mth D 74 [.ref 40] (am_SH.take 41, kI kB1 (kV1.take 2), kJ, kR 37) P := by
  obtain ⟨d, rfl⟩ : ∃ d, D = d + 1 := ⟨D - 1, by omega⟩
  refine am_mth_of rfl rfl ?_
  show am_go none d 74 (0, [some (.ref 40)], [], (am_SH.take 41, kI kB1 (kV1.take 2), kJ, kR 37), 0, 0) P
  refine am_s_aload_n rfl dc74_0.1 ?_
  refine am_s_objinit dc74_0.2.1 rfl rfl ?_
  exact am_s_return dc74_0.2.2 rfl kk
theorem kc74_17 {D : Nat} {P : am_O → Prop} (hD : 1 ≤ D) (kk : P (.inl none, (am_SH.take 42, kI kB1 (kV1.take 2), kJ, kR 38), 0, 0)) : am_mth D 74 [.ref 41] (am_SH.take 42, kI kB1 (kV1.take 2), kJ, kR 38) P := by
  obtain ⟨d, rfl⟩ : ∃ d, D = d + 1 := ⟨D - 1, by omega⟩
  refine am_mth_of rfl rfl ?_
  show am_go none d 74 (0, [some (.ref 41)], [], (am_SH.take 42, kI kB1 (kV1.take 2), kJ, kR 38), 0, 0) P
  refine am_s_aload_n rfl dc74_0.1 ?_
  refine am_s_objinit dc74_0.2.1 rfl rfl ?_
  exact am_s_return dc74_0.2.2 rfl kk
theorem kc74_18 {D : Nat} {P : am_O → Prop} (hD : 1 ≤ D) (kk : P (.inl none, (am_SH.take 43, kI kB1 (kV1.take 2), kJ, kR 39), 0, 0)) : am_mth D 74 [.ref 42] (am_SH.take 43, kI kB1 (kV1.take 2), kJ, kR 39) P := by
  obtain ⟨d, rfl⟩ : ∃ d, D = d + 1 := ⟨D - 1, by omega⟩
  refine am_mth_of rfl rfl ?_
  show am_go none d 74 (0, [some (.ref 42)], [], (am_SH.take 43, kI kB1 (kV1.take 2), kJ, kR 39), 0, 0) P
  refine am_s_aload_n rfl dc74_0.1 ?_
  refine am_s_objinit dc74_0.2.1 rfl rfl ?_
  exact am_s_return dc74_0.2.2 rfl kk
theorem kc74_19 {D : Nat} {P : am_O → Prop} (hD : 1 ≤ D) (kk : P (.inl none, (am_SH.take 44, kI kB1 (kV1.take 2), kJ, kR 40), 0, 0)) : am_mth D 74 [.ref 43] (am_SH.take 44, kI kB1 (kV1.take 2), kJ, kR 40) P := by
  obtain ⟨d, rfl⟩ : ∃ d, D = d + 1 := ⟨D - 1, by omega⟩
  refine am_mth_of rfl rfl ?_
  show am_go none d 74 (0, [some (.ref 43)], [], (am_SH.take 44, kI kB1 (kV1.take 2), kJ, kR 40), 0, 0) P
  refine am_s_aload_n rfl dc74_0.1 ?_
  refine am_s_objinit dc74_0.2.1 rfl rfl ?_
  exact am_s_return dc74_0.2.2 rfl kk
theorem kc74_20 {D : Nat} {P : am_O → Prop} (hD : 1 ≤ D) (kk : P (.inl none, (am_SH.take 45, kI kB1 (kV1.take 2), kJ, kR 41), 0, 0)) : am_mth D 74 [.ref 44] (am_SH.take 45, kI kB1 (kV1.take 2), kJ, kR 41) P := by
  obtain ⟨d, rfl⟩ : ∃ d, D = d + 1 := ⟨D - 1, by omega⟩
  refine am_mth_of rfl rfl ?_
  show am_go none d 74 (0, [some (.ref 44)], [], (am_SH.take 45, kI kB1 (kV1.take 2), kJ, kR 41), 0, 0) P
  refine am_s_aload_n rfl dc74_0.1 ?_
  refine am_s_objinit dc74_0.2.1 rfl rfl ?_
  exact am_s_return dc74_0.2.2 rfl kk
theorem kc74_21 {D : Nat} {P : am_O → Prop} (hD : 1 ≤ D) (kk : P (.inl none, (am_SH.take 46, kI kB1 (kV1.take 2), kJ, kR 42), 0, 0)) : am_mth D 74 [.ref 45] (am_SH.take 46, kI kB1 (kV1.take 2), kJ, kR 42) P := by
  obtain ⟨d, rfl⟩ : ∃ d, D = d + 1 := ⟨D - 1, by omega⟩
  refine am_mth_of rfl rfl ?_
  show am_go none d 74 (0, [some (.ref 45)], [], (am_SH.take 46, kI kB1 (kV1.take 2), kJ, kR 42), 0, 0) P
  refine am_s_aload_n rfl dc74_0.1 ?_
  refine am_s_objinit dc74_0.2.1 rfl rfl ?_
  exact am_s_return dc74_0.2.2 rfl kk
theorem kc74_22 {D : Nat} {P : am_O → Prop} (hD : 1 ≤ D) (kk : P (.inl none, (am_SH.take 47, kI kB1 (kV1.take 2), kJ, kR 43), 0, 0)) : am_mth D 74 [.ref 46] (am_SH.take 47, kI kB1 (kV1.take 2), kJ, kR 43) P := by
  obtain ⟨d, rfl⟩ : ∃ d, D = d + 1 := ⟨D - 1, by omega⟩
  refine am_mth_of rfl rfl ?_
  show am_go none d 74 (0, [some (.ref 46)], [], (am_SH.take 47, kI kB1 (kV1.take 2), kJ, kR 43), 0, 0) P
  refine am_s_aload_n rfl dc74_0.1 ?_
  refine am_s_objinit dc74_0.2.1 rfl rfl ?_
  exact am_s_return dc74_0.2.2 rfl kk
theorem kc90_13 {D : Nat} {P : am_O → Prop} (hD : 2 ≤ D) (kk : P (.inl none, (am_SH.take 47, kI kB1 (kV1.take 2), kJ, kR 44), 15, 185)) : am_mth D 90 [.ref 31] (am_SH.take 32, kI kB1 (kV1.take 2), kJ, kR 29) P := by
  obtain ⟨d, rfl⟩ : ∃ d, D = d + 1 := ⟨D - 1, by omega⟩
  refine am_mth_of rfl rfl ?_
  show am_go none d 90 (0, [some (.ref 31), none], [], (am_SH.take 32, kI kB1 (kV1.take 2), kJ, kR 29), 0, 0) P
  refine am_s_aload_n rfl dc90_0.1.1.1 ?_
  refine am_s_objinit dc90_0.1.1.2 rfl rfl ?_
  refine am_s_aload_n rfl dc90_0.1.2.1 ?_
  refine am_s_bipush (x := 8) (by decide) dc90_0.1.2.2 ?_
  refine kb_newarray (k2 := 1) (n2 := 8) (L := 8) dc90_0.2.1.1 rfl rfl (by decide +kernel) kZ1 (by decide +kernel) (by decide +kernel) (by decide) rfl rfl ?_
  refine kb_putR dc90_0.2.1.2 rfl (kS rfl (by decide)) rfl rfl (by decide +kernel) (by decide +kernel) ?_
  refine am_s_aload_n rfl dc90_0.2.2.1 ?_
  refine am_s_bipush (x := 8) (by decide) dc90_0.2.2.2 ?_
  refine kb_newarray (k2 := 2) (n2 := 16) (L := 8) dc90_1.1.1.1 rfl rfl (by decide +kernel) kZ1 (by decide +kernel) (by decide +kernel) (by decide) rfl rfl ?_
  refine kb_putR dc90_1.1.1.2 rfl (kS rfl (by decide)) rfl rfl (by decide +kernel) (by decide +kernel) ?_
  refine am_s_aload_n rfl dc90_1.1.2.1 ?_
  refine am_s_bipush (x := 8) (by decide) dc90_1.1.2.2 ?_
  refine kb_newarray (k2 := 3) (n2 := 24) (L := 8) dc90_1.2.1.1 rfl rfl (by decide +kernel) kZ1 (by decide +kernel) (by decide +kernel) (by decide) rfl rfl ?_
  refine kb_putR dc90_1.2.1.2 rfl (kS rfl (by decide)) rfl rfl (by decide +kernel) (by decide +kernel) ?_
  refine am_s_aload_n rfl dc90_1.2.2.1 ?_
  refine am_s_bipush (x := 8) (by decide) dc90_1.2.2.2 ?_
  refine kb_newarray (k2 := 4) (n2 := 32) (L := 8) dc90_2.1.1.1 rfl rfl (by decide +kernel) kZ1 (by decide +kernel) (by decide +kernel) (by decide) rfl rfl ?_
  refine kb_putR dc90_2.1.1.2 rfl (kS rfl (by decide)) rfl rfl (by decide +kernel) (by decide +kernel) ?_
  refine am_s_aload_n rfl dc90_2.1.2.1 ?_
  refine am_s_bipush (x := 8) (by decide) dc90_2.1.2.2 ?_
  refine kb_anewarray (k2 := 5) (n2 := 40) (L := 8) dc90_2.2.1.1 rfl rfl rfl (by decide +kernel) kZ1 (by decide +kernel) (by decide +kernel) (by decide) rfl rfl ?_
  refine kb_putR dc90_2.2.1.2 rfl (kS rfl (by decide)) rfl rfl (by decide +kernel) (by decide +kernel) ?_
  refine am_s_aload_n rfl dc90_2.2.2.1 ?_
  refine kb_new (k2 := 6) (n2 := 42) (m := 2) dc90_2.2.2.2 rfl rfl (by decide +kernel) kZ1 (by decide +kernel) (by decide +kernel) rfl rfl rfl ?_
  refine am_s_dup rfl dc90_3.1.1.1 ?_
  refine am_s_init dc90_3.1.1.2 rfl rfl rfl rfl (kc74_14 (by omega) (kb_back (k2 := 6) (n2 := 42) (by decide +kernel) rfl rfl ?_))
  refine kb_putR dc90_3.1.2.1 rfl (kS rfl (by decide)) rfl rfl (by decide +kernel) (by decide +kernel) ?_
  refine am_s_aload_n rfl dc90_3.1.2.2 ?_
  refine am_s_bipush (x := 127) (by decide) dc90_3.2.1.1 ?_
  refine kb_newarray (k2 := 7) (n2 := 169) (L := 127) dc90_3.2.1.2 rfl rfl (by decide +kernel) kZ1 (by decide +kernel) (by decide +kernel) (by decide) rfl rfl ?_
  refine kb_putR dc90_3.2.2.1 rfl (kS rfl (by decide)) rfl rfl (by decide +kernel) (by decide +kernel) ?_
  refine am_s_iconst (x := 0) (by decide) dc90_3.2.2.2 ?_
  refine am_s_istore_n (ls' := [some (.ref 31), some (.int 0)]) rfl rfl dc90_4.1.1.1 ?_
  refine am_s_iload_n rfl dc90_4.1.1.2 ?_
  refine am_s_bipush (x := 8) (by decide) dc90_4.1.2.1 ?_
  refine am_s_ic_ge dc90_4.1.2.2 rfl (fun z => absurd z (by decide)) (fun _ => ?_)
  refine am_s_aload_n rfl dc90_4.2.1.1 ?_
  refine am_s_getR (r := 36) dc90_4.2.1.2 rfl (kS rfl (by decide)) rfl (by decide +kernel) ?_
  refine am_s_iload_n rfl dc90_4.2.2.1 ?_
  refine kb_new (k2 := 8) (n2 := 171) (m := 2) dc90_4.2.2.2 rfl rfl (by decide +kernel) kZ1 (by decide +kernel) (by decide +kernel) rfl rfl rfl ?_
  refine am_s_dup rfl dc90_5.1.1 ?_
  refine am_s_init dc90_5.1.2.1 rfl rfl rfl rfl (kc74_15 (by omega) (kb_back (k2 := 8) (n2 := 171) (by decide +kernel) rfl rfl ?_))
  refine kb_aastore (m := 0) dc90_5.1.2.2 (kS rfl (by decide)) rfl (kS rfl (by decide)) (by decide) (by decide) (by decide +kernel) ?_
  refine kb_iinc (ls' := [some (.ref 31), some (.int 1)]) (c := 1) (x2 := 1) (by decide) (by decide) rfl rfl dc90_5.2.1 ?_
  refine am_s_goto rfl dc90_5.2.2.1 ?_
  refine am_s_iload_n rfl dc90_4.1.1.2 ?_
  refine am_s_bipush (x := 8) (by decide) dc90_4.1.2.1 ?_
  refine am_s_ic_ge dc90_4.1.2.2 rfl (fun z => absurd z (by decide)) (fun _ => ?_)
  refine am_s_aload_n rfl dc90_4.2.1.1 ?_
  refine am_s_getR (r := 36) dc90_4.2.1.2 rfl (kS rfl (by decide)) rfl (by decide +kernel) ?_
  refine am_s_iload_n rfl dc90_4.2.2.1 ?_
  refine kb_new (k2 := 9) (n2 := 173) (m := 2) dc90_4.2.2.2 rfl rfl (by decide +kernel) kZ1 (by decide +kernel) (by decide +kernel) rfl rfl rfl ?_
  refine am_s_dup rfl dc90_5.1.1 ?_
  refine am_s_init dc90_5.1.2.1 rfl rfl rfl rfl (kc74_16 (by omega) (kb_back (k2 := 9) (n2 := 173) (by decide +kernel) rfl rfl ?_))
  refine kb_aastore (m := 1) dc90_5.1.2.2 (kS rfl (by decide)) rfl (kS rfl (by decide)) (by decide) (by decide) (by decide +kernel) ?_
  refine kb_iinc (ls' := [some (.ref 31), some (.int 2)]) (c := 1) (x2 := 2) (by decide) (by decide) rfl rfl dc90_5.2.1 ?_
  refine am_s_goto rfl dc90_5.2.2.1 ?_
  refine am_s_iload_n rfl dc90_4.1.1.2 ?_
  refine am_s_bipush (x := 8) (by decide) dc90_4.1.2.1 ?_
  refine am_s_ic_ge dc90_4.1.2.2 rfl (fun z => absurd z (by decide)) (fun _ => ?_)
  refine am_s_aload_n rfl dc90_4.2.1.1 ?_
  refine am_s_getR (r := 36) dc90_4.2.1.2 rfl (kS rfl (by decide)) rfl (by decide +kernel) ?_
  refine am_s_iload_n rfl dc90_4.2.2.1 ?_
  refine kb_new (k2 := 10) (n2 := 175) (m := 2) dc90_4.2.2.2 rfl rfl (by decide +kernel) kZ1 (by decide +kernel) (by decide +kernel) rfl rfl rfl ?_
  refine am_s_dup rfl dc90_5.1.1 ?_
  refine am_s_init dc90_5.1.2.1 rfl rfl rfl rfl (kc74_17 (by omega) (kb_back (k2 := 10) (n2 := 175) (by decide +kernel) rfl rfl ?_))
  refine kb_aastore (m := 2) dc90_5.1.2.2 (kS rfl (by decide)) rfl (kS rfl (by decide)) (by decide) (by decide) (by decide +kernel) ?_
  refine kb_iinc (ls' := [some (.ref 31), some (.int 3)]) (c := 1) (x2 := 3) (by decide) (by decide) rfl rfl dc90_5.2.1 ?_
  refine am_s_goto rfl dc90_5.2.2.1 ?_
  refine am_s_iload_n rfl dc90_4.1.1.2 ?_
  refine am_s_bipush (x := 8) (by decide) dc90_4.1.2.1 ?_
  refine am_s_ic_ge dc90_4.1.2.2 rfl (fun z => absurd z (by decide)) (fun _ => ?_)
  refine am_s_aload_n rfl dc90_4.2.1.1 ?_
  refine am_s_getR (r := 36) dc90_4.2.1.2 rfl (kS rfl (by decide)) rfl (by decide +kernel) ?_
  refine am_s_iload_n rfl dc90_4.2.2.1 ?_
  refine kb_new (k2 := 11) (n2 := 177) (m := 2) dc90_4.2.2.2 rfl rfl (by decide +kernel) kZ1 (by decide +kernel) (by decide +kernel) rfl rfl rfl ?_
  refine am_s_dup rfl dc90_5.1.1 ?_
  refine am_s_init dc90_5.1.2.1 rfl rfl rfl rfl (kc74_18 (by omega) (kb_back (k2 := 11) (n2 := 177) (by decide +kernel) rfl rfl ?_))
  refine kb_aastore (m := 3) dc90_5.1.2.2 (kS rfl (by decide)) rfl (kS rfl (by decide)) (by decide) (by decide) (by decide +kernel) ?_
  refine kb_iinc (ls' := [some (.ref 31), some (.int 4)]) (c := 1) (x2 := 4) (by decide) (by decide) rfl rfl dc90_5.2.1 ?_
  refine am_s_goto rfl dc90_5.2.2.1 ?_
  refine am_s_iload_n rfl dc90_4.1.1.2 ?_
  refine am_s_bipush (x := 8) (by decide) dc90_4.1.2.1 ?_
  refine am_s_ic_ge dc90_4.1.2.2 rfl (fun z => absurd z (by decide)) (fun _ => ?_)
  refine am_s_aload_n rfl dc90_4.2.1.1 ?_
  refine am_s_getR (r := 36) dc90_4.2.1.2 rfl (kS rfl (by decide)) rfl (by decide +kernel) ?_
  refine am_s_iload_n rfl dc90_4.2.2.1 ?_
  refine kb_new (k2 := 12) (n2 := 179) (m := 2) dc90_4.2.2.2 rfl rfl (by decide +kernel) kZ1 (by decide +kernel) (by decide +kernel) rfl rfl rfl ?_
  refine am_s_dup rfl dc90_5.1.1 ?_
  refine am_s_init dc90_5.1.2.1 rfl rfl rfl rfl (kc74_19 (by omega) (kb_back (k2 := 12) (n2 := 179) (by decide +kernel) rfl rfl ?_))
  refine kb_aastore (m := 4) dc90_5.1.2.2 (kS rfl (by decide)) rfl (kS rfl (by decide)) (by decide) (by decide) (by decide +kernel) ?_
  refine kb_iinc (ls' := [some (.ref 31), some (.int 5)]) (c := 1) (x2 := 5) (by decide) (by decide) rfl rfl dc90_5.2.1 ?_
  refine am_s_goto rfl dc90_5.2.2.1 ?_
  refine am_s_iload_n rfl dc90_4.1.1.2 ?_
  refine am_s_bipush (x := 8) (by decide) dc90_4.1.2.1 ?_
  refine am_s_ic_ge dc90_4.1.2.2 rfl (fun z => absurd z (by decide)) (fun _ => ?_)
  refine am_s_aload_n rfl dc90_4.2.1.1 ?_
  refine am_s_getR (r := 36) dc90_4.2.1.2 rfl (kS rfl (by decide)) rfl (by decide +kernel) ?_
  refine am_s_iload_n rfl dc90_4.2.2.1 ?_
  refine kb_new (k2 := 13) (n2 := 181) (m := 2) dc90_4.2.2.2 rfl rfl (by decide +kernel) kZ1 (by decide +kernel) (by decide +kernel) rfl rfl rfl ?_
  refine am_s_dup rfl dc90_5.1.1 ?_
  refine am_s_init dc90_5.1.2.1 rfl rfl rfl rfl (kc74_20 (by omega) (kb_back (k2 := 13) (n2 := 181) (by decide +kernel) rfl rfl ?_))
  refine kb_aastore (m := 5) dc90_5.1.2.2 (kS rfl (by decide)) rfl (kS rfl (by decide)) (by decide) (by decide) (by decide +kernel) ?_
  refine kb_iinc (ls' := [some (.ref 31), some (.int 6)]) (c := 1) (x2 := 6) (by decide) (by decide) rfl rfl dc90_5.2.1 ?_
  refine am_s_goto rfl dc90_5.2.2.1 ?_
  refine am_s_iload_n rfl dc90_4.1.1.2 ?_
  refine am_s_bipush (x := 8) (by decide) dc90_4.1.2.1 ?_
  refine am_s_ic_ge dc90_4.1.2.2 rfl (fun z => absurd z (by decide)) (fun _ => ?_)
  refine am_s_aload_n rfl dc90_4.2.1.1 ?_
  refine am_s_getR (r := 36) dc90_4.2.1.2 rfl (kS rfl (by decide)) rfl (by decide +kernel) ?_
  refine am_s_iload_n rfl dc90_4.2.2.1 ?_
  refine kb_new (k2 := 14) (n2 := 183) (m := 2) dc90_4.2.2.2 rfl rfl (by decide +kernel) kZ1 (by decide +kernel) (by decide +kernel) rfl rfl rfl ?_
  refine am_s_dup rfl dc90_5.1.1 ?_
  refine am_s_init dc90_5.1.2.1 rfl rfl rfl rfl (kc74_21 (by omega) (kb_back (k2 := 14) (n2 := 183) (by decide +kernel) rfl rfl ?_))
  refine kb_aastore (m := 6) dc90_5.1.2.2 (kS rfl (by decide)) rfl (kS rfl (by decide)) (by decide) (by decide) (by decide +kernel) ?_
  refine kb_iinc (ls' := [some (.ref 31), some (.int 7)]) (c := 1) (x2 := 7) (by decide) (by decide) rfl rfl dc90_5.2.1 ?_
  refine am_s_goto rfl dc90_5.2.2.1 ?_
  refine am_s_iload_n rfl dc90_4.1.1.2 ?_
  refine am_s_bipush (x := 8) (by decide) dc90_4.1.2.1 ?_
  refine am_s_ic_ge dc90_4.1.2.2 rfl (fun z => absurd z (by decide)) (fun _ => ?_)
  refine am_s_aload_n rfl dc90_4.2.1.1 ?_
  refine am_s_getR (r := 36) dc90_4.2.1.2 rfl (kS rfl (by decide)) rfl (by decide +kernel) ?_
  refine am_s_iload_n rfl dc90_4.2.2.1 ?_
  refine kb_new (k2 := 15) (n2 := 185) (m := 2) dc90_4.2.2.2 rfl rfl (by decide +kernel) kZ1 (by decide +kernel) (by decide +kernel) rfl rfl rfl ?_
  refine am_s_dup rfl dc90_5.1.1 ?_
  refine am_s_init dc90_5.1.2.1 rfl rfl rfl rfl (kc74_22 (by omega) (kb_back (k2 := 15) (n2 := 185) (by decide +kernel) rfl rfl ?_))
  refine kb_aastore (m := 7) dc90_5.1.2.2 (kS rfl (by decide)) rfl (kS rfl (by decide)) (by decide) (by decide) (by decide +kernel) ?_
  refine kb_iinc (ls' := [some (.ref 31), some (.int 8)]) (c := 1) (x2 := 8) (by decide) (by decide) rfl rfl dc90_5.2.1 ?_
  refine am_s_goto rfl dc90_5.2.2.1 ?_
  refine am_s_iload_n rfl dc90_4.1.1.2 ?_
  refine am_s_bipush (x := 8) (by decide) dc90_4.1.2.1 ?_
  refine am_s_ic_ge dc90_4.1.2.2 rfl (fun _ => ?_) (fun z => absurd (by decide) z)
  exact am_s_return dc90_5.2.2.2 rfl kk
theorem kc74_23 {D : Nat} {P : am_O → Prop} (hD : 1 ≤ D) (kk : P (.inl none, (am_SH.take 48, kI kB1 (kV1.take 2), kJ, kR 45), 0, 0)) : am_mth D 74 [.ref 47] (am_SH.take 48, kI kB1 (kV1.take 2), kJ, kR 45) P := by
  obtain ⟨d, rfl⟩ : ∃ d, D = d + 1 := ⟨D - 1, by omega⟩
  refine am_mth_of rfl rfl ?_
  show am_go none d 74 (0, [some (.ref 47)], [], (am_SH.take 48, kI kB1 (kV1.take 2), kJ, kR 45), 0, 0) P
  refine am_s_aload_n rfl dc74_0.1 ?_
  refine am_s_objinit dc74_0.2.1 rfl rfl ?_
  exact am_s_return dc74_0.2.2 rfl kk
theorem kc74_24 {D : Nat} {P : am_O → Prop} (hD : 1 ≤ D) (kk : P (.inl none, (am_SH.take 49, kI kB1 (kV1.take 2), kJ, kR 46), 0, 0)) : am_mth D 74 [.ref 48] (am_SH.take 49, kI kB1 (kV1.take 2), kJ, kR 46) P := by
  obtain ⟨d, rfl⟩ : ∃ d, D = d + 1 := ⟨D - 1, by omega⟩
  refine am_mth_of rfl rfl ?_
  show am_go none d 74 (0, [some (.ref 48)], [], (am_SH.take 49, kI kB1 (kV1.take 2), kJ, kR 46), 0, 0) P
  refine am_s_aload_n rfl dc74_0.1 ?_
  refine am_s_objinit dc74_0.2.1 rfl rfl ?_
  exact am_s_return dc74_0.2.2 rfl kk
theorem kc74_25 {D : Nat} {P : am_O → Prop} (hD : 1 ≤ D) (kk : P (.inl none, (am_SH.take 50, kI kB1 (kV1.take 2), kJ, kR 47), 0, 0)) : am_mth D 74 [.ref 49] (am_SH.take 50, kI kB1 (kV1.take 2), kJ, kR 47) P := by
  obtain ⟨d, rfl⟩ : ∃ d, D = d + 1 := ⟨D - 1, by omega⟩
  refine am_mth_of rfl rfl ?_
  show am_go none d 74 (0, [some (.ref 49)], [], (am_SH.take 50, kI kB1 (kV1.take 2), kJ, kR 47), 0, 0) P
  refine am_s_aload_n rfl dc74_0.1 ?_
  refine am_s_objinit dc74_0.2.1 rfl rfl ?_
  exact am_s_return dc74_0.2.2 rfl kk
theorem kc74_26 {D : Nat} {P : am_O → Prop} (hD : 1 ≤ D) (kk : P (.inl none, (am_SH.take 51, kI kB1 (kV1.take 2), kJ, kR 48), 0, 0)) : am_mth D 74 [.ref 50] (am_SH.take 51, kI kB1 (kV1.take 2), kJ, kR 48) P := by
  obtain ⟨d, rfl⟩ : ∃ d, D = d + 1 := ⟨D - 1, by omega⟩
  refine am_mth_of rfl rfl ?_
  show am_go none d 74 (0, [some (.ref 50)], [], (am_SH.take 51, kI kB1 (kV1.take 2), kJ, kR 48), 0, 0) P
  refine am_s_aload_n rfl dc74_0.1 ?_
  refine am_s_objinit dc74_0.2.1 rfl rfl ?_
  exact am_s_return dc74_0.2.2 rfl kk
theorem kc74_27 {D : Nat} {P : am_O → Prop} (hD : 1 ≤ D) (kk : P (.inl none, (am_SH.take 52, kI kB1 (kV1.take 2), kJ, kR 49), 0, 0)) : am_mth D 74 [.ref 51] (am_SH.take 52, kI kB1 (kV1.take 2), kJ, kR 49) P := by
  obtain ⟨d, rfl⟩ : ∃ d, D = d + 1 := ⟨D - 1, by omega⟩
  refine am_mth_of rfl rfl ?_
  show am_go none d 74 (0, [some (.ref 51)], [], (am_SH.take 52, kI kB1 (kV1.take 2), kJ, kR 49), 0, 0) P
  refine am_s_aload_n rfl dc74_0.1 ?_
  refine am_s_objinit dc74_0.2.1 rfl rfl ?_
  exact am_s_return dc74_0.2.2 rfl kk
theorem kc74_28 {D : Nat} {P : am_O → Prop} (hD : 1 ≤ D) (kk : P (.inl none, (am_SH.take 53, kI kB1 (kV1.take 2), kJ, kR 50), 0, 0)) : am_mth D 74 [.ref 52] (am_SH.take 53, kI kB1 (kV1.take 2), kJ, kR 50) P := by
  obtain ⟨d, rfl⟩ : ∃ d, D = d + 1 := ⟨D - 1, by omega⟩
  refine am_mth_of rfl rfl ?_
  show am_go none d 74 (0, [some (.ref 52)], [], (am_SH.take 53, kI kB1 (kV1.take 2), kJ, kR 50), 0, 0) P
  refine am_s_aload_n rfl dc74_0.1 ?_
  refine am_s_objinit dc74_0.2.1 rfl rfl ?_
  exact am_s_return dc74_0.2.2 rfl kk
theorem kc74_29 {D : Nat} {P : am_O → Prop} (hD : 1 ≤ D) (kk : P (.inl none, (am_SH.take 54, kI kB1 (kV1.take 2), kJ, kR 51), 0, 0)) : am_mth D 74 [.ref 53] (am_SH.take 54, kI kB1 (kV1.take 2), kJ, kR 51) P := by
  obtain ⟨d, rfl⟩ : ∃ d, D = d + 1 := ⟨D - 1, by omega⟩
  refine am_mth_of rfl rfl ?_
  show am_go none d 74 (0, [some (.ref 53)], [], (am_SH.take 54, kI kB1 (kV1.take 2), kJ, kR 51), 0, 0) P
  refine am_s_aload_n rfl dc74_0.1 ?_
  refine am_s_objinit dc74_0.2.1 rfl rfl ?_
  exact am_s_return dc74_0.2.2 rfl kk
theorem kc74_30 {D : Nat} {P : am_O → Prop} (hD : 1 ≤ D) (kk : P (.inl none, (am_SH.take 55, kI kB1 (kV1.take 2), kJ, kR 52), 0, 0)) : am_mth D 74 [.ref 54] (am_SH.take 55, kI kB1 (kV1.take 2), kJ, kR 52) P := by
  obtain ⟨d, rfl⟩ : ∃ d, D = d + 1 := ⟨D - 1, by omega⟩
  refine am_mth_of rfl rfl ?_
  show am_go none d 74 (0, [some (.ref 54)], [], (am_SH.take 55, kI kB1 (kV1.take 2), kJ, kR 52), 0, 0) P
  refine am_s_aload_n rfl dc74_0.1 ?_
  refine am_s_objinit dc74_0.2.1 rfl rfl ?_
  exact am_s_return dc74_0.2.2 rfl kk
theorem kc66_12 {D : Nat} {P : am_O → Prop} (hD : 3 ≤ D) (kk : P (.inl none, (am_SH.take 55, kI kB1 (kV1.take 2), kJ, kR 53), 38, 1130)) : am_mth D 66 [.ref 16] (am_SH.take 17, kI kB1 (kV1.take 1), kJ, kR 15) P := by
  obtain ⟨d, rfl⟩ : ∃ d, D = d + 1 := ⟨D - 1, by omega⟩
  refine am_mth_of rfl rfl ?_
  show am_go none d 66 (0, [some (.ref 16), none], [], (am_SH.take 17, kI kB1 (kV1.take 1), kJ, kR 15), 0, 0) P
  refine am_s_aload_n rfl dc66_0.1.1.1 ?_
  refine am_s_objinit dc66_0.1.1.2 rfl rfl ?_
  refine am_s_aload_n rfl dc66_0.1.2.1 ?_
  refine am_s_bipush (x := 8) (by decide) dc66_0.1.2.2 ?_
  refine kb_anewarray (k2 := 1) (n2 := 8) (L := 8) dc66_0.2.1.1 rfl rfl rfl (by decide +kernel) kZ1 (by decide +kernel) (by decide +kernel) (by decide) rfl rfl ?_
  refine kb_putR dc66_0.2.1.2 rfl (kS rfl (by decide)) rfl rfl (by decide +kernel) (by decide +kernel) ?_
  refine am_s_aload_n rfl dc66_0.2.2.1 ?_
  refine am_s_bipush (x := 20) (by decide) dc66_0.2.2.2 ?_
  refine kb_newarray (k2 := 2) (n2 := 28) (L := 20) dc66_1.1.1.1 rfl rfl (by decide +kernel) kZ1 (by decide +kernel) (by decide +kernel) (by decide) rfl rfl ?_
  refine kb_putR dc66_1.1.1.2 rfl (kS rfl (by decide)) rfl rfl (by decide +kernel) (by decide +kernel) ?_
  refine am_s_aload_n rfl dc66_1.1.2.1 ?_
  refine am_s_bipush (x := 20) (by decide) dc66_1.1.2.2 ?_
  refine kb_newarray (k2 := 3) (n2 := 48) (L := 20) dc66_1.2.1.1 rfl rfl (by decide +kernel) kZ1 (by decide +kernel) (by decide +kernel) (by decide) rfl rfl ?_
  refine kb_putR dc66_1.2.1.2 rfl (kS rfl (by decide)) rfl rfl (by decide +kernel) (by decide +kernel) ?_
  refine am_s_aload_n rfl dc66_1.2.2.1 ?_
  refine am_s_bipush (x := 20) (by decide) dc66_1.2.2.2 ?_
  refine kb_newarray (k2 := 4) (n2 := 68) (L := 20) dc66_2.1.1.1 rfl rfl (by decide +kernel) kZ1 (by decide +kernel) (by decide +kernel) (by decide) rfl rfl ?_
  refine kb_putR dc66_2.1.1.2 rfl (kS rfl (by decide)) rfl rfl (by decide +kernel) (by decide +kernel) ?_
  refine am_s_aload_n rfl dc66_2.1.2.1 ?_
  refine am_s_bipush (x := 80) (by decide) dc66_2.1.2.2 ?_
  refine kb_newarray (k2 := 5) (n2 := 148) (L := 80) dc66_2.2.1.1 rfl rfl (by decide +kernel) kZ1 (by decide +kernel) (by decide +kernel) (by decide) rfl rfl ?_
  refine kb_putR dc66_2.2.1.2 rfl (kS rfl (by decide)) rfl rfl (by decide +kernel) (by decide +kernel) ?_
  refine am_s_aload_n rfl dc66_2.2.2.1 ?_
  refine am_s_bipush (x := 80) (by decide) dc66_2.2.2.2 ?_
  refine kb_newarray (k2 := 6) (n2 := 228) (L := 80) dc66_3.1.1.1 rfl rfl (by decide +kernel) kZ1 (by decide +kernel) (by decide +kernel) (by decide) rfl rfl ?_
  refine kb_putR dc66_3.1.1.2 rfl (kS rfl (by decide)) rfl rfl (by decide +kernel) (by decide +kernel) ?_
  refine am_s_aload_n rfl dc66_3.1.2.1 ?_
  refine am_s_sipush (x := 640) (by decide) dc66_3.1.2.2 ?_
  refine kb_newarray (k2 := 7) (n2 := 868) (L := 640) dc66_3.2.1.1 rfl rfl (by decide +kernel) kZ1 (by decide +kernel) (by decide +kernel) (by decide) rfl rfl ?_
  refine kb_putR dc66_3.2.1.2 rfl (kS rfl (by decide)) rfl rfl (by decide +kernel) (by decide +kernel) ?_
  refine am_s_aload_n rfl dc66_3.2.2.1 ?_
  refine am_s_iconst (x := 4) (by decide) dc66_3.2.2.2 ?_
  refine kb_newarray (k2 := 8) (n2 := 872) (L := 4) dc66_4.1.1.1 rfl rfl (by decide +kernel) kZ1 (by decide +kernel) (by decide +kernel) (by decide) rfl rfl ?_
  refine kb_putR dc66_4.1.1.2 rfl (kS rfl (by decide)) rfl rfl (by decide +kernel) (by decide +kernel) ?_
  refine am_s_aload_n rfl dc66_4.1.2.1 ?_
  refine am_s_iconst (x := 4) (by decide) dc66_4.1.2.2 ?_
  refine kb_newarray (k2 := 9) (n2 := 876) (L := 4) dc66_4.2.1.1 rfl rfl (by decide +kernel) kZ1 (by decide +kernel) (by decide +kernel) (by decide) rfl rfl ?_
  refine kb_putR dc66_4.2.1.2 rfl (kS rfl (by decide)) rfl rfl (by decide +kernel) (by decide +kernel) ?_
  refine am_s_aload_n rfl dc66_4.2.2.1 ?_
  refine am_s_bipush (x := 12) (by decide) dc66_4.2.2.2 ?_
  refine kb_newarray (k2 := 10) (n2 := 888) (L := 12) dc66_5.1.1.1 rfl rfl (by decide +kernel) kZ1 (by decide +kernel) (by decide +kernel) (by decide) rfl rfl ?_
  refine kb_putR dc66_5.1.1.2 rfl (kS rfl (by decide)) rfl rfl (by decide +kernel) (by decide +kernel) ?_
  refine am_s_aload_n rfl dc66_5.1.2.1 ?_
  refine am_s_bipush (x := 8) (by decide) dc66_5.1.2.2 ?_
  refine kb_newarray (k2 := 11) (n2 := 896) (L := 8) dc66_5.2.1.1 rfl rfl (by decide +kernel) kZ1 (by decide +kernel) (by decide +kernel) (by decide) rfl rfl ?_
  refine kb_putR dc66_5.2.1.2 rfl (kS rfl (by decide)) rfl rfl (by decide +kernel) (by decide +kernel) ?_
  refine am_s_aload_n rfl dc66_5.2.2.1 ?_
  refine am_s_bipush (x := 8) (by decide) dc66_5.2.2.2 ?_
  refine kb_newarray (k2 := 12) (n2 := 904) (L := 8) dc66_6.1.1.1 rfl rfl (by decide +kernel) kZ1 (by decide +kernel) (by decide +kernel) (by decide) rfl rfl ?_
  refine kb_putR dc66_6.1.1.2 rfl (kS rfl (by decide)) rfl rfl (by decide +kernel) (by decide +kernel) ?_
  refine am_s_aload_n rfl dc66_6.1.2.1 ?_
  refine am_s_bipush (x := 8) (by decide) dc66_6.1.2.2 ?_
  refine kb_newarray (k2 := 13) (n2 := 912) (L := 8) dc66_6.2.1.1 rfl rfl (by decide +kernel) kZ1 (by decide +kernel) (by decide +kernel) (by decide) rfl rfl ?_
  refine kb_putR dc66_6.2.1.2 rfl (kS rfl (by decide)) rfl rfl (by decide +kernel) (by decide +kernel) ?_
  refine am_s_aload_n rfl dc66_6.2.2.1 ?_
  refine am_s_bipush (x := 8) (by decide) dc66_6.2.2.2 ?_
  refine kb_newarray (k2 := 14) (n2 := 920) (L := 8) dc66_7.1.1.1 rfl rfl (by decide +kernel) kZ1 (by decide +kernel) (by decide +kernel) (by decide) rfl rfl ?_
  refine kb_putR dc66_7.1.1.2 rfl (kS rfl (by decide)) rfl rfl (by decide +kernel) (by decide +kernel) ?_
  refine am_s_aload_n rfl dc66_7.1.2.1 ?_
  refine am_s_iconst (x := (-1)) (by decide) dc66_7.1.2.2 ?_
  refine kb_putI dc66_7.2.1.1 rfl (kS rfl (by decide)) rfl rfl (by decide +kernel) ?_
  refine am_s_aload_n rfl dc66_7.2.1.2 ?_
  refine kb_new (k2 := 15) (n2 := 929) (m := 9) dc66_7.2.2.1 rfl rfl (by decide +kernel) kZ1 (by decide +kernel) (by decide +kernel) rfl rfl rfl ?_
  refine am_s_dup rfl dc66_7.2.2.2 ?_
  refine am_s_init dc66_8.1.1.1 rfl rfl rfl rfl (kc90_13 (by omega) (kb_back (k2 := 30) (n2 := 1114) (by decide +kernel) rfl rfl ?_))
  refine kb_putR dc66_8.1.1.2 rfl (kS rfl (by decide)) rfl rfl (by decide +kernel) (by decide +kernel) ?_
  refine am_s_iconst (x := 0) (by decide) dc66_8.1.2.1 ?_
  refine am_s_istore_n (ls' := [some (.ref 16), some (.int 0)]) rfl rfl dc66_8.1.2.2 ?_
  refine am_s_iload_n rfl dc66_8.2.1.1 ?_
  refine am_s_bipush (x := 8) (by decide) dc66_8.2.1.2 ?_
  refine am_s_ic_ge dc66_8.2.2.1 rfl (fun z => absurd z (by decide)) (fun _ => ?_)
  refine am_s_aload_n rfl dc66_8.2.2.2 ?_
  refine am_s_getR (r := 17) dc66_9.1.1.1 rfl (kS rfl (by decide)) rfl (by decide +kernel) ?_
  refine am_s_iload_n rfl dc66_9.1.1.2 ?_
  refine kb_new (k2 := 31) (n2 := 1116) (m := 2) dc66_9.1.2.1 rfl rfl (by decide +kernel) kZ1 (by decide +kernel) (by decide +kernel) rfl rfl rfl ?_
  refine am_s_dup rfl dc66_9.1.2.2 ?_
  refine am_s_init dc66_9.2.1.1 rfl rfl rfl rfl (kc74_23 (by omega) (kb_back (k2 := 31) (n2 := 1116) (by decide +kernel) rfl rfl ?_))
  refine kb_aastore (m := 0) dc66_9.2.1.2 (kS rfl (by decide)) rfl (kS rfl (by decide)) (by decide) (by decide) (by decide +kernel) ?_
  refine kb_iinc (ls' := [some (.ref 16), some (.int 1)]) (c := 1) (x2 := 1) (by decide) (by decide) rfl rfl dc66_9.2.2.1 ?_
  refine am_s_goto rfl dc66_9.2.2.2 ?_
  refine am_s_iload_n rfl dc66_8.2.1.1 ?_
  refine am_s_bipush (x := 8) (by decide) dc66_8.2.1.2 ?_
  refine am_s_ic_ge dc66_8.2.2.1 rfl (fun z => absurd z (by decide)) (fun _ => ?_)
  refine am_s_aload_n rfl dc66_8.2.2.2 ?_
  refine am_s_getR (r := 17) dc66_9.1.1.1 rfl (kS rfl (by decide)) rfl (by decide +kernel) ?_
  refine am_s_iload_n rfl dc66_9.1.1.2 ?_
  refine kb_new (k2 := 32) (n2 := 1118) (m := 2) dc66_9.1.2.1 rfl rfl (by decide +kernel) kZ1 (by decide +kernel) (by decide +kernel) rfl rfl rfl ?_
  refine am_s_dup rfl dc66_9.1.2.2 ?_
  refine am_s_init dc66_9.2.1.1 rfl rfl rfl rfl (kc74_24 (by omega) (kb_back (k2 := 32) (n2 := 1118) (by decide +kernel) rfl rfl ?_))
  refine kb_aastore (m := 1) dc66_9.2.1.2 (kS rfl (by decide)) rfl (kS rfl (by decide)) (by decide) (by decide) (by decide +kernel) ?_
  refine kb_iinc (ls' := [some (.ref 16), some (.int 2)]) (c := 1) (x2 := 2) (by decide) (by decide) rfl rfl dc66_9.2.2.1 ?_
  refine am_s_goto rfl dc66_9.2.2.2 ?_
  refine am_s_iload_n rfl dc66_8.2.1.1 ?_
  refine am_s_bipush (x := 8) (by decide) dc66_8.2.1.2 ?_
  refine am_s_ic_ge dc66_8.2.2.1 rfl (fun z => absurd z (by decide)) (fun _ => ?_)
  refine am_s_aload_n rfl dc66_8.2.2.2 ?_
  refine am_s_getR (r := 17) dc66_9.1.1.1 rfl (kS rfl (by decide)) rfl (by decide +kernel) ?_
  refine am_s_iload_n rfl dc66_9.1.1.2 ?_
  refine kb_new (k2 := 33) (n2 := 1120) (m := 2) dc66_9.1.2.1 rfl rfl (by decide +kernel) kZ1 (by decide +kernel) (by decide +kernel) rfl rfl rfl ?_
  refine am_s_dup rfl dc66_9.1.2.2 ?_
  refine am_s_init dc66_9.2.1.1 rfl rfl rfl rfl (kc74_25 (by omega) (kb_back (k2 := 33) (n2 := 1120) (by decide +kernel) rfl rfl ?_))
  refine kb_aastore (m := 2) dc66_9.2.1.2 (kS rfl (by decide)) rfl (kS rfl (by decide)) (by decide) (by decide) (by decide +kernel) ?_
  refine kb_iinc (ls' := [some (.ref 16), some (.int 3)]) (c := 1) (x2 := 3) (by decide) (by decide) rfl rfl dc66_9.2.2.1 ?_
  refine am_s_goto rfl dc66_9.2.2.2 ?_
  refine am_s_iload_n rfl dc66_8.2.1.1 ?_
  refine am_s_bipush (x := 8) (by decide) dc66_8.2.1.2 ?_
  refine am_s_ic_ge dc66_8.2.2.1 rfl (fun z => absurd z (by decide)) (fun _ => ?_)
  refine am_s_aload_n rfl dc66_8.2.2.2 ?_
  refine am_s_getR (r := 17) dc66_9.1.1.1 rfl (kS rfl (by decide)) rfl (by decide +kernel) ?_
  refine am_s_iload_n rfl dc66_9.1.1.2 ?_
  refine kb_new (k2 := 34) (n2 := 1122) (m := 2) dc66_9.1.2.1 rfl rfl (by decide +kernel) kZ1 (by decide +kernel) (by decide +kernel) rfl rfl rfl ?_
  refine am_s_dup rfl dc66_9.1.2.2 ?_
  refine am_s_init dc66_9.2.1.1 rfl rfl rfl rfl (kc74_26 (by omega) (kb_back (k2 := 34) (n2 := 1122) (by decide +kernel) rfl rfl ?_))
  refine kb_aastore (m := 3) dc66_9.2.1.2 (kS rfl (by decide)) rfl (kS rfl (by decide)) (by decide) (by decide) (by decide +kernel) ?_
  refine kb_iinc (ls' := [some (.ref 16), some (.int 4)]) (c := 1) (x2 := 4) (by decide) (by decide) rfl rfl dc66_9.2.2.1 ?_
  refine am_s_goto rfl dc66_9.2.2.2 ?_
  refine am_s_iload_n rfl dc66_8.2.1.1 ?_
  refine am_s_bipush (x := 8) (by decide) dc66_8.2.1.2 ?_
  refine am_s_ic_ge dc66_8.2.2.1 rfl (fun z => absurd z (by decide)) (fun _ => ?_)
  refine am_s_aload_n rfl dc66_8.2.2.2 ?_
  refine am_s_getR (r := 17) dc66_9.1.1.1 rfl (kS rfl (by decide)) rfl (by decide +kernel) ?_
  refine am_s_iload_n rfl dc66_9.1.1.2 ?_
  refine kb_new (k2 := 35) (n2 := 1124) (m := 2) dc66_9.1.2.1 rfl rfl (by decide +kernel) kZ1 (by decide +kernel) (by decide +kernel) rfl rfl rfl ?_
  refine am_s_dup rfl dc66_9.1.2.2 ?_
  refine am_s_init dc66_9.2.1.1 rfl rfl rfl rfl (kc74_27 (by omega) (kb_back (k2 := 35) (n2 := 1124) (by decide +kernel) rfl rfl ?_))
  refine kb_aastore (m := 4) dc66_9.2.1.2 (kS rfl (by decide)) rfl (kS rfl (by decide)) (by decide) (by decide) (by decide +kernel) ?_
  refine kb_iinc (ls' := [some (.ref 16), some (.int 5)]) (c := 1) (x2 := 5) (by decide) (by decide) rfl rfl dc66_9.2.2.1 ?_
  refine am_s_goto rfl dc66_9.2.2.2 ?_
  refine am_s_iload_n rfl dc66_8.2.1.1 ?_
  refine am_s_bipush (x := 8) (by decide) dc66_8.2.1.2 ?_
  refine am_s_ic_ge dc66_8.2.2.1 rfl (fun z => absurd z (by decide)) (fun _ => ?_)
  refine am_s_aload_n rfl dc66_8.2.2.2 ?_
  refine am_s_getR (r := 17) dc66_9.1.1.1 rfl (kS rfl (by decide)) rfl (by decide +kernel) ?_
  refine am_s_iload_n rfl dc66_9.1.1.2 ?_
  refine kb_new (k2 := 36) (n2 := 1126) (m := 2) dc66_9.1.2.1 rfl rfl (by decide +kernel) kZ1 (by decide +kernel) (by decide +kernel) rfl rfl rfl ?_
  refine am_s_dup rfl dc66_9.1.2.2 ?_
  refine am_s_init dc66_9.2.1.1 rfl rfl rfl rfl (kc74_28 (by omega) (kb_back (k2 := 36) (n2 := 1126) (by decide +kernel) rfl rfl ?_))
  refine kb_aastore (m := 5) dc66_9.2.1.2 (kS rfl (by decide)) rfl (kS rfl (by decide)) (by decide) (by decide) (by decide +kernel) ?_
  refine kb_iinc (ls' := [some (.ref 16), some (.int 6)]) (c := 1) (x2 := 6) (by decide) (by decide) rfl rfl dc66_9.2.2.1 ?_
  refine am_s_goto rfl dc66_9.2.2.2 ?_
  refine am_s_iload_n rfl dc66_8.2.1.1 ?_
  refine am_s_bipush (x := 8) (by decide) dc66_8.2.1.2 ?_
  refine am_s_ic_ge dc66_8.2.2.1 rfl (fun z => absurd z (by decide)) (fun _ => ?_)
  refine am_s_aload_n rfl dc66_8.2.2.2 ?_
  refine am_s_getR (r := 17) dc66_9.1.1.1 rfl (kS rfl (by decide)) rfl (by decide +kernel) ?_
  refine am_s_iload_n rfl dc66_9.1.1.2 ?_
  refine kb_new (k2 := 37) (n2 := 1128) (m := 2) dc66_9.1.2.1 rfl rfl (by decide +kernel) kZ1 (by decide +kernel) (by decide +kernel) rfl rfl rfl ?_
  refine am_s_dup rfl dc66_9.1.2.2 ?_
  refine am_s_init dc66_9.2.1.1 rfl rfl rfl rfl (kc74_29 (by omega) (kb_back (k2 := 37) (n2 := 1128) (by decide +kernel) rfl rfl ?_))
  refine kb_aastore (m := 6) dc66_9.2.1.2 (kS rfl (by decide)) rfl (kS rfl (by decide)) (by decide) (by decide) (by decide +kernel) ?_
  refine kb_iinc (ls' := [some (.ref 16), some (.int 7)]) (c := 1) (x2 := 7) (by decide) (by decide) rfl rfl dc66_9.2.2.1 ?_
  refine am_s_goto rfl dc66_9.2.2.2 ?_
  refine am_s_iload_n rfl dc66_8.2.1.1 ?_
  refine am_s_bipush (x := 8) (by decide) dc66_8.2.1.2 ?_
  refine am_s_ic_ge dc66_8.2.2.1 rfl (fun z => absurd z (by decide)) (fun _ => ?_)
  refine am_s_aload_n rfl dc66_8.2.2.2 ?_
  refine am_s_getR (r := 17) dc66_9.1.1.1 rfl (kS rfl (by decide)) rfl (by decide +kernel) ?_
  refine am_s_iload_n rfl dc66_9.1.1.2 ?_
  refine kb_new (k2 := 38) (n2 := 1130) (m := 2) dc66_9.1.2.1 rfl rfl (by decide +kernel) kZ1 (by decide +kernel) (by decide +kernel) rfl rfl rfl ?_
  refine am_s_dup rfl dc66_9.1.2.2 ?_
  refine am_s_init dc66_9.2.1.1 rfl rfl rfl rfl (kc74_30 (by omega) (kb_back (k2 := 38) (n2 := 1130) (by decide +kernel) rfl rfl ?_))
  refine kb_aastore (m := 7) dc66_9.2.1.2 (kS rfl (by decide)) rfl (kS rfl (by decide)) (by decide) (by decide) (by decide +kernel) ?_
  refine kb_iinc (ls' := [some (.ref 16), some (.int 8)]) (c := 1) (x2 := 8) (by decide) (by decide) rfl rfl dc66_9.2.2.1 ?_
  refine am_s_goto rfl dc66_9.2.2.2 ?_
  refine am_s_iload_n rfl dc66_8.2.1.1 ?_
  refine am_s_bipush (x := 8) (by decide) dc66_8.2.1.2 ?_
  refine am_s_ic_ge dc66_8.2.2.1 rfl (fun _ => ?_) (fun z => absurd (by decide) z)
  exact am_s_return dc66_10 rfl kk
theorem kc74_33 {D : Nat} {P : am_O → Prop} (hD : 1 ≤ D) (kk : P (.inl none, (am_SH.take 77, kI kB1 (kV1.take 3), kJ, kR 73), 0, 0)) : am_mth D 74 [.ref 76] (am_SH.take 77, kI kB1 (kV1.take 3), kJ, kR 73) P := by
  obtain ⟨d, rfl⟩ : ∃ d, D = d + 1 := ⟨D - 1, by omega⟩
  refine am_mth_of rfl rfl ?_
  show am_go none d 74 (0, [some (.ref 76)], [], (am_SH.take 77, kI kB1 (kV1.take 3), kJ, kR 73), 0, 0) P
  refine am_s_aload_n rfl dc74_0.1 ?_
  refine am_s_objinit dc74_0.2.1 rfl rfl ?_
  exact am_s_return dc74_0.2.2 rfl kk
theorem kc74_34 {D : Nat} {P : am_O → Prop} (hD : 1 ≤ D) (kk : P (.inl none, (am_SH.take 79, kI kB1 (kV1.take 3), kJ, kR 75), 0, 0)) : am_mth D 74 [.ref 78] (am_SH.take 79, kI kB1 (kV1.take 3), kJ, kR 75) P := by
  obtain ⟨d, rfl⟩ : ∃ d, D = d + 1 := ⟨D - 1, by omega⟩
  refine am_mth_of rfl rfl ?_
  show am_go none d 74 (0, [some (.ref 78)], [], (am_SH.take 79, kI kB1 (kV1.take 3), kJ, kR 75), 0, 0) P
  refine am_s_aload_n rfl dc74_0.1 ?_
  refine am_s_objinit dc74_0.2.1 rfl rfl ?_
  exact am_s_return dc74_0.2.2 rfl kk
theorem kc74_35 {D : Nat} {P : am_O → Prop} (hD : 1 ≤ D) (kk : P (.inl none, (am_SH.take 80, kI kB1 (kV1.take 3), kJ, kR 76), 0, 0)) : am_mth D 74 [.ref 79] (am_SH.take 80, kI kB1 (kV1.take 3), kJ, kR 76) P := by
  obtain ⟨d, rfl⟩ : ∃ d, D = d + 1 := ⟨D - 1, by omega⟩
  refine am_mth_of rfl rfl ?_
  show am_go none d 74 (0, [some (.ref 79)], [], (am_SH.take 80, kI kB1 (kV1.take 3), kJ, kR 76), 0, 0) P
  refine am_s_aload_n rfl dc74_0.1 ?_
  refine am_s_objinit dc74_0.2.1 rfl rfl ?_
  exact am_s_return dc74_0.2.2 rfl kk
theorem kc74_36 {D : Nat} {P : am_O → Prop} (hD : 1 ≤ D) (kk : P (.inl none, (am_SH.take 81, kI kB1 (kV1.take 3), kJ, kR 77), 0, 0)) : am_mth D 74 [.ref 80] (am_SH.take 81, kI kB1 (kV1.take 3), kJ, kR 77) P := by
  obtain ⟨d, rfl⟩ : ∃ d, D = d + 1 := ⟨D - 1, by omega⟩
  refine am_mth_of rfl rfl ?_
  show am_go none d 74 (0, [some (.ref 80)], [], (am_SH.take 81, kI kB1 (kV1.take 3), kJ, kR 77), 0, 0) P
  refine am_s_aload_n rfl dc74_0.1 ?_
  refine am_s_objinit dc74_0.2.1 rfl rfl ?_
  exact am_s_return dc74_0.2.2 rfl kk
theorem kc74_37 {D : Nat} {P : am_O → Prop} (hD : 1 ≤ D) (kk : P (.inl none, (am_SH.take 82, kI kB1 (kV1.take 3), kJ, kR 78), 0, 0)) : am_mth D 74 [.ref 81] (am_SH.take 82, kI kB1 (kV1.take 3), kJ, kR 78) P := by
  obtain ⟨d, rfl⟩ : ∃ d, D = d + 1 := ⟨D - 1, by omega⟩
  refine am_mth_of rfl rfl ?_
  show am_go none d 74 (0, [some (.ref 81)], [], (am_SH.take 82, kI kB1 (kV1.take 3), kJ, kR 78), 0, 0) P
  refine am_s_aload_n rfl dc74_0.1 ?_
  refine am_s_objinit dc74_0.2.1 rfl rfl ?_
  exact am_s_return dc74_0.2.2 rfl kk
theorem kc74_38 {D : Nat} {P : am_O → Prop} (hD : 1 ≤ D) (kk : P (.inl none, (am_SH.take 83, kI kB1 (kV1.take 3), kJ, kR 79), 0, 0)) : am_mth D 74 [.ref 82] (am_SH.take 83, kI kB1 (kV1.take 3), kJ, kR 79) P := by
  obtain ⟨d, rfl⟩ : ∃ d, D = d + 1 := ⟨D - 1, by omega⟩
  refine am_mth_of rfl rfl ?_
  show am_go none d 74 (0, [some (.ref 82)], [], (am_SH.take 83, kI kB1 (kV1.take 3), kJ, kR 79), 0, 0) P
  refine am_s_aload_n rfl dc74_0.1 ?_
  refine am_s_objinit dc74_0.2.1 rfl rfl ?_
  exact am_s_return dc74_0.2.2 rfl kk
theorem kc74_39 {D : Nat} {P : am_O → Prop} (hD : 1 ≤ D) (kk : P (.inl none, (am_SH.take 84, kI kB1 (kV1.take 3), kJ, kR 80), 0, 0)) : am_mth D 74 [.ref 83] (am_SH.take 84, kI kB1 (kV1.take 3), kJ, kR 80) P := by
  obtain ⟨d, rfl⟩ : ∃ d, D = d + 1 := ⟨D - 1, by omega⟩
  refine am_mth_of rfl rfl ?_
  show am_go none d 74 (0, [some (.ref 83)], [], (am_SH.take 84, kI kB1 (kV1.take 3), kJ, kR 80), 0, 0) P
  refine am_s_aload_n rfl dc74_0.1 ?_
  refine am_s_objinit dc74_0.2.1 rfl rfl ?_
  exact am_s_return dc74_0.2.2 rfl kk
theorem kc74_40 {D : Nat} {P : am_O → Prop} (hD : 1 ≤ D) (kk : P (.inl none, (am_SH.take 85, kI kB1 (kV1.take 3), kJ, kR 81), 0, 0)) : am_mth D 74 [.ref 84] (am_SH.take 85, kI kB1 (kV1.take 3), kJ, kR 81) P := by
  obtain ⟨d, rfl⟩ : ∃ d, D = d + 1 := ⟨D - 1, by omega⟩
  refine am_mth_of rfl rfl ?_
  show am_go none d 74 (0, [some (.ref 84)], [], (am_SH.take 85, kI kB1 (kV1.take 3), kJ, kR 81), 0, 0) P
  refine am_s_aload_n rfl dc74_0.1 ?_
  refine am_s_objinit dc74_0.2.1 rfl rfl ?_
  exact am_s_return dc74_0.2.2 rfl kk
theorem kc74_41 {D : Nat} {P : am_O → Prop} (hD : 1 ≤ D) (kk : P (.inl none, (am_SH.take 86, kI kB1 (kV1.take 3), kJ, kR 82), 0, 0)) : am_mth D 74 [.ref 85] (am_SH.take 86, kI kB1 (kV1.take 3), kJ, kR 82) P := by
  obtain ⟨d, rfl⟩ : ∃ d, D = d + 1 := ⟨D - 1, by omega⟩
  refine am_mth_of rfl rfl ?_
  show am_go none d 74 (0, [some (.ref 85)], [], (am_SH.take 86, kI kB1 (kV1.take 3), kJ, kR 82), 0, 0) P
  refine am_s_aload_n rfl dc74_0.1 ?_
  refine am_s_objinit dc74_0.2.1 rfl rfl ?_
  exact am_s_return dc74_0.2.2 rfl kk
theorem kc90_32 {D : Nat} {P : am_O → Prop} (hD : 2 ≤ D) (kk : P (.inl none, (am_SH.take 86, kI kB1 (kV1.take 3), kJ, kR 83), 15, 185)) : am_mth D 90 [.ref 70] (am_SH.take 71, kI kB1 (kV1.take 3), kJ, kR 68) P := by
  obtain ⟨d, rfl⟩ : ∃ d, D = d + 1 := ⟨D - 1, by omega⟩
  refine am_mth_of rfl rfl ?_
  show am_go none d 90 (0, [some (.ref 70), none], [], (am_SH.take 71, kI kB1 (kV1.take 3), kJ, kR 68), 0, 0) P
  refine am_s_aload_n rfl dc90_0.1.1.1 ?_
  refine am_s_objinit dc90_0.1.1.2 rfl rfl ?_
  refine am_s_aload_n rfl dc90_0.1.2.1 ?_
  refine am_s_bipush (x := 8) (by decide) dc90_0.1.2.2 ?_
  refine kb_newarray (k2 := 1) (n2 := 8) (L := 8) dc90_0.2.1.1 rfl rfl (by decide +kernel) kZ1 (by decide +kernel) (by decide +kernel) (by decide) rfl rfl ?_
  refine kb_putR dc90_0.2.1.2 rfl (kS rfl (by decide)) rfl rfl (by decide +kernel) (by decide +kernel) ?_
  refine am_s_aload_n rfl dc90_0.2.2.1 ?_
  refine am_s_bipush (x := 8) (by decide) dc90_0.2.2.2 ?_
  refine kb_newarray (k2 := 2) (n2 := 16) (L := 8) dc90_1.1.1.1 rfl rfl (by decide +kernel) kZ1 (by decide +kernel) (by decide +kernel) (by decide) rfl rfl ?_
  refine kb_putR dc90_1.1.1.2 rfl (kS rfl (by decide)) rfl rfl (by decide +kernel) (by decide +kernel) ?_
  refine am_s_aload_n rfl dc90_1.1.2.1 ?_
  refine am_s_bipush (x := 8) (by decide) dc90_1.1.2.2 ?_
  refine kb_newarray (k2 := 3) (n2 := 24) (L := 8) dc90_1.2.1.1 rfl rfl (by decide +kernel) kZ1 (by decide +kernel) (by decide +kernel) (by decide) rfl rfl ?_
  refine kb_putR dc90_1.2.1.2 rfl (kS rfl (by decide)) rfl rfl (by decide +kernel) (by decide +kernel) ?_
  refine am_s_aload_n rfl dc90_1.2.2.1 ?_
  refine am_s_bipush (x := 8) (by decide) dc90_1.2.2.2 ?_
  refine kb_newarray (k2 := 4) (n2 := 32) (L := 8) dc90_2.1.1.1 rfl rfl (by decide +kernel) kZ1 (by decide +kernel) (by decide +kernel) (by decide) rfl rfl ?_
  refine kb_putR dc90_2.1.1.2 rfl (kS rfl (by decide)) rfl rfl (by decide +kernel) (by decide +kernel) ?_
  refine am_s_aload_n rfl dc90_2.1.2.1 ?_
  refine am_s_bipush (x := 8) (by decide) dc90_2.1.2.2 ?_
  refine kb_anewarray (k2 := 5) (n2 := 40) (L := 8) dc90_2.2.1.1 rfl rfl rfl (by decide +kernel) kZ1 (by decide +kernel) (by decide +kernel) (by decide) rfl rfl ?_
  refine kb_putR dc90_2.2.1.2 rfl (kS rfl (by decide)) rfl rfl (by decide +kernel) (by decide +kernel) ?_
  refine am_s_aload_n rfl dc90_2.2.2.1 ?_
  refine kb_new (k2 := 6) (n2 := 42) (m := 2) dc90_2.2.2.2 rfl rfl (by decide +kernel) kZ1 (by decide +kernel) (by decide +kernel) rfl rfl rfl ?_
  refine am_s_dup rfl dc90_3.1.1.1 ?_
  refine am_s_init dc90_3.1.1.2 rfl rfl rfl rfl (kc74_33 (by omega) (kb_back (k2 := 6) (n2 := 42) (by decide +kernel) rfl rfl ?_))
  refine kb_putR dc90_3.1.2.1 rfl (kS rfl (by decide)) rfl rfl (by decide +kernel) (by decide +kernel) ?_
  refine am_s_aload_n rfl dc90_3.1.2.2 ?_
  refine am_s_bipush (x := 127) (by decide) dc90_3.2.1.1 ?_
  refine kb_newarray (k2 := 7) (n2 := 169) (L := 127) dc90_3.2.1.2 rfl rfl (by decide +kernel) kZ1 (by decide +kernel) (by decide +kernel) (by decide) rfl rfl ?_
  refine kb_putR dc90_3.2.2.1 rfl (kS rfl (by decide)) rfl rfl (by decide +kernel) (by decide +kernel) ?_
  refine am_s_iconst (x := 0) (by decide) dc90_3.2.2.2 ?_
  refine am_s_istore_n (ls' := [some (.ref 70), some (.int 0)]) rfl rfl dc90_4.1.1.1 ?_
  refine am_s_iload_n rfl dc90_4.1.1.2 ?_
  refine am_s_bipush (x := 8) (by decide) dc90_4.1.2.1 ?_
  refine am_s_ic_ge dc90_4.1.2.2 rfl (fun z => absurd z (by decide)) (fun _ => ?_)
  refine am_s_aload_n rfl dc90_4.2.1.1 ?_
  refine am_s_getR (r := 75) dc90_4.2.1.2 rfl (kS rfl (by decide)) rfl (by decide +kernel) ?_
  refine am_s_iload_n rfl dc90_4.2.2.1 ?_
  refine kb_new (k2 := 8) (n2 := 171) (m := 2) dc90_4.2.2.2 rfl rfl (by decide +kernel) kZ1 (by decide +kernel) (by decide +kernel) rfl rfl rfl ?_
  refine am_s_dup rfl dc90_5.1.1 ?_
  refine am_s_init dc90_5.1.2.1 rfl rfl rfl rfl (kc74_34 (by omega) (kb_back (k2 := 8) (n2 := 171) (by decide +kernel) rfl rfl ?_))
  refine kb_aastore (m := 0) dc90_5.1.2.2 (kS rfl (by decide)) rfl (kS rfl (by decide)) (by decide) (by decide) (by decide +kernel) ?_
  refine kb_iinc (ls' := [some (.ref 70), some (.int 1)]) (c := 1) (x2 := 1) (by decide) (by decide) rfl rfl dc90_5.2.1 ?_
  refine am_s_goto rfl dc90_5.2.2.1 ?_
  refine am_s_iload_n rfl dc90_4.1.1.2 ?_
  refine am_s_bipush (x := 8) (by decide) dc90_4.1.2.1 ?_
  refine am_s_ic_ge dc90_4.1.2.2 rfl (fun z => absurd z (by decide)) (fun _ => ?_)
  refine am_s_aload_n rfl dc90_4.2.1.1 ?_
  refine am_s_getR (r := 75) dc90_4.2.1.2 rfl (kS rfl (by decide)) rfl (by decide +kernel) ?_
  refine am_s_iload_n rfl dc90_4.2.2.1 ?_
  refine kb_new (k2 := 9) (n2 := 173) (m := 2) dc90_4.2.2.2 rfl rfl (by decide +kernel) kZ1 (by decide +kernel) (by decide +kernel) rfl rfl rfl ?_
  refine am_s_dup rfl dc90_5.1.1 ?_
  refine am_s_init dc90_5.1.2.1 rfl rfl rfl rfl (kc74_35 (by omega) (kb_back (k2 := 9) (n2 := 173) (by decide +kernel) rfl rfl ?_))
  refine kb_aastore (m := 1) dc90_5.1.2.2 (kS rfl (by decide)) rfl (kS rfl (by decide)) (by decide) (by decide) (by decide +kernel) ?_
  refine kb_iinc (ls' := [some (.ref 70), some (.int 2)]) (c := 1) (x2 := 2) (by decide) (by decide) rfl rfl dc90_5.2.1 ?_
  refine am_s_goto rfl dc90_5.2.2.1 ?_
  refine am_s_iload_n rfl dc90_4.1.1.2 ?_
  refine am_s_bipush (x := 8) (by decide) dc90_4.1.2.1 ?_
  refine am_s_ic_ge dc90_4.1.2.2 rfl (fun z => absurd z (by decide)) (fun _ => ?_)
  refine am_s_aload_n rfl dc90_4.2.1.1 ?_
  refine am_s_getR (r := 75) dc90_4.2.1.2 rfl (kS rfl (by decide)) rfl (by decide +kernel) ?_
  refine am_s_iload_n rfl dc90_4.2.2.1 ?_
  refine kb_new (k2 := 10) (n2 := 175) (m := 2) dc90_4.2.2.2 rfl rfl (by decide +kernel) kZ1 (by decide +kernel) (by decide +kernel) rfl rfl rfl ?_
  refine am_s_dup rfl dc90_5.1.1 ?_
  refine am_s_init dc90_5.1.2.1 rfl rfl rfl rfl (kc74_36 (by omega) (kb_back (k2 := 10) (n2 := 175) (by decide +kernel) rfl rfl ?_))
  refine kb_aastore (m := 2) dc90_5.1.2.2 (kS rfl (by decide)) rfl (kS rfl (by decide)) (by decide) (by decide) (by decide +kernel) ?_
  refine kb_iinc (ls' := [some (.ref 70), some (.int 3)]) (c := 1) (x2 := 3) (by decide) (by decide) rfl rfl dc90_5.2.1 ?_
  refine am_s_goto rfl dc90_5.2.2.1 ?_
  refine am_s_iload_n rfl dc90_4.1.1.2 ?_
  refine am_s_bipush (x := 8) (by decide) dc90_4.1.2.1 ?_
  refine am_s_ic_ge dc90_4.1.2.2 rfl (fun z => absurd z (by decide)) (fun _ => ?_)
  refine am_s_aload_n rfl dc90_4.2.1.1 ?_
  refine am_s_getR (r := 75) dc90_4.2.1.2 rfl (kS rfl (by decide)) rfl (by decide +kernel) ?_
  refine am_s_iload_n rfl dc90_4.2.2.1 ?_
  refine kb_new (k2 := 11) (n2 := 177) (m := 2) dc90_4.2.2.2 rfl rfl (by decide +kernel) kZ1 (by decide +kernel) (by decide +kernel) rfl rfl rfl ?_
  refine am_s_dup rfl dc90_5.1.1 ?_
  refine am_s_init dc90_5.1.2.1 rfl rfl rfl rfl (kc74_37 (by omega) (kb_back (k2 := 11) (n2 := 177) (by decide +kernel) rfl rfl ?_))
  refine kb_aastore (m := 3) dc90_5.1.2.2 (kS rfl (by decide)) rfl (kS rfl (by decide)) (by decide) (by decide) (by decide +kernel) ?_
  refine kb_iinc (ls' := [some (.ref 70), some (.int 4)]) (c := 1) (x2 := 4) (by decide) (by decide) rfl rfl dc90_5.2.1 ?_
  refine am_s_goto rfl dc90_5.2.2.1 ?_
  refine am_s_iload_n rfl dc90_4.1.1.2 ?_
  refine am_s_bipush (x := 8) (by decide) dc90_4.1.2.1 ?_
  refine am_s_ic_ge dc90_4.1.2.2 rfl (fun z => absurd z (by decide)) (fun _ => ?_)
  refine am_s_aload_n rfl dc90_4.2.1.1 ?_
  refine am_s_getR (r := 75) dc90_4.2.1.2 rfl (kS rfl (by decide)) rfl (by decide +kernel) ?_
  refine am_s_iload_n rfl dc90_4.2.2.1 ?_
  refine kb_new (k2 := 12) (n2 := 179) (m := 2) dc90_4.2.2.2 rfl rfl (by decide +kernel) kZ1 (by decide +kernel) (by decide +kernel) rfl rfl rfl ?_
  refine am_s_dup rfl dc90_5.1.1 ?_
  refine am_s_init dc90_5.1.2.1 rfl rfl rfl rfl (kc74_38 (by omega) (kb_back (k2 := 12) (n2 := 179) (by decide +kernel) rfl rfl ?_))
  refine kb_aastore (m := 4) dc90_5.1.2.2 (kS rfl (by decide)) rfl (kS rfl (by decide)) (by decide) (by decide) (by decide +kernel) ?_
  refine kb_iinc (ls' := [some (.ref 70), some (.int 5)]) (c := 1) (x2 := 5) (by decide) (by decide) rfl rfl dc90_5.2.1 ?_
  refine am_s_goto rfl dc90_5.2.2.1 ?_
  refine am_s_iload_n rfl dc90_4.1.1.2 ?_
  refine am_s_bipush (x := 8) (by decide) dc90_4.1.2.1 ?_
  refine am_s_ic_ge dc90_4.1.2.2 rfl (fun z => absurd z (by decide)) (fun _ => ?_)
  refine am_s_aload_n rfl dc90_4.2.1.1 ?_
  refine am_s_getR (r := 75) dc90_4.2.1.2 rfl (kS rfl (by decide)) rfl (by decide +kernel) ?_
  refine am_s_iload_n rfl dc90_4.2.2.1 ?_
  refine kb_new (k2 := 13) (n2 := 181) (m := 2) dc90_4.2.2.2 rfl rfl (by decide +kernel) kZ1 (by decide +kernel) (by decide +kernel) rfl rfl rfl ?_
  refine am_s_dup rfl dc90_5.1.1 ?_
  refine am_s_init dc90_5.1.2.1 rfl rfl rfl rfl (kc74_39 (by omega) (kb_back (k2 := 13) (n2 := 181) (by decide +kernel) rfl rfl ?_))
  refine kb_aastore (m := 5) dc90_5.1.2.2 (kS rfl (by decide)) rfl (kS rfl (by decide)) (by decide) (by decide) (by decide +kernel) ?_
  refine kb_iinc (ls' := [some (.ref 70), some (.int 6)]) (c := 1) (x2 := 6) (by decide) (by decide) rfl rfl dc90_5.2.1 ?_
  refine am_s_goto rfl dc90_5.2.2.1 ?_
  refine am_s_iload_n rfl dc90_4.1.1.2 ?_
  refine am_s_bipush (x := 8) (by decide) dc90_4.1.2.1 ?_
  refine am_s_ic_ge dc90_4.1.2.2 rfl (fun z => absurd z (by decide)) (fun _ => ?_)
  refine am_s_aload_n rfl dc90_4.2.1.1 ?_
  refine am_s_getR (r := 75) dc90_4.2.1.2 rfl (kS rfl (by decide)) rfl (by decide +kernel) ?_
  refine am_s_iload_n rfl dc90_4.2.2.1 ?_
  refine kb_new (k2 := 14) (n2 := 183) (m := 2) dc90_4.2.2.2 rfl rfl (by decide +kernel) kZ1 (by decide +kernel) (by decide +kernel) rfl rfl rfl ?_
  refine am_s_dup rfl dc90_5.1.1 ?_
  refine am_s_init dc90_5.1.2.1 rfl rfl rfl rfl (kc74_40 (by omega) (kb_back (k2 := 14) (n2 := 183) (by decide +kernel) rfl rfl ?_))
  refine kb_aastore (m := 6) dc90_5.1.2.2 (kS rfl (by decide)) rfl (kS rfl (by decide)) (by decide) (by decide) (by decide +kernel) ?_
  refine kb_iinc (ls' := [some (.ref 70), some (.int 7)]) (c := 1) (x2 := 7) (by decide) (by decide) rfl rfl dc90_5.2.1 ?_
  refine am_s_goto rfl dc90_5.2.2.1 ?_
  refine am_s_iload_n rfl dc90_4.1.1.2 ?_
  refine am_s_bipush (x := 8) (by decide) dc90_4.1.2.1 ?_
  refine am_s_ic_ge dc90_4.1.2.2 rfl (fun z => absurd z (by decide)) (fun _ => ?_)
  refine am_s_aload_n rfl dc90_4.2.1.1 ?_
  refine am_s_getR (r := 75) dc90_4.2.1.2 rfl (kS rfl (by decide)) rfl (by decide +kernel) ?_
  refine am_s_iload_n rfl dc90_4.2.2.1 ?_
  refine kb_new (k2 := 15) (n2 := 185) (m := 2) dc90_4.2.2.2 rfl rfl (by decide +kernel) kZ1 (by decide +kernel) (by decide +kernel) rfl rfl rfl ?_
  refine am_s_dup rfl dc90_5.1.1 ?_
  refine am_s_init dc90_5.1.2.1 rfl rfl rfl rfl (kc74_41 (by omega) (kb_back (k2 := 15) (n2 := 185) (by decide +kernel) rfl rfl ?_))
  refine kb_aastore (m := 7) dc90_5.1.2.2 (kS rfl (by decide)) rfl (kS rfl (by decide)) (by decide) (by decide) (by decide +kernel) ?_
  refine kb_iinc (ls' := [some (.ref 70), some (.int 8)]) (c := 1) (x2 := 8) (by decide) (by decide) rfl rfl dc90_5.2.1 ?_
  refine am_s_goto rfl dc90_5.2.2.1 ?_
  refine am_s_iload_n rfl dc90_4.1.1.2 ?_
  refine am_s_bipush (x := 8) (by decide) dc90_4.1.2.1 ?_
  refine am_s_ic_ge dc90_4.1.2.2 rfl (fun _ => ?_) (fun z => absurd (by decide) z)
  exact am_s_return dc90_5.2.2.2 rfl kk
theorem kc74_42 {D : Nat} {P : am_O → Prop} (hD : 1 ≤ D) (kk : P (.inl none, (am_SH.take 87, kI kB1 (kV1.take 3), kJ, kR 84), 0, 0)) : am_mth D 74 [.ref 86] (am_SH.take 87, kI kB1 (kV1.take 3), kJ, kR 84) P := by
  obtain ⟨d, rfl⟩ : ∃ d, D = d + 1 := ⟨D - 1, by omega⟩
  refine am_mth_of rfl rfl ?_
  show am_go none d 74 (0, [some (.ref 86)], [], (am_SH.take 87, kI kB1 (kV1.take 3), kJ, kR 84), 0, 0) P
  refine am_s_aload_n rfl dc74_0.1 ?_
  refine am_s_objinit dc74_0.2.1 rfl rfl ?_
  exact am_s_return dc74_0.2.2 rfl kk
theorem kc74_43 {D : Nat} {P : am_O → Prop} (hD : 1 ≤ D) (kk : P (.inl none, (am_SH.take 88, kI kB1 (kV1.take 3), kJ, kR 85), 0, 0)) : am_mth D 74 [.ref 87] (am_SH.take 88, kI kB1 (kV1.take 3), kJ, kR 85) P := by
  obtain ⟨d, rfl⟩ : ∃ d, D = d + 1 := ⟨D - 1, by omega⟩
  refine am_mth_of rfl rfl ?_
  show am_go none d 74 (0, [some (.ref 87)], [], (am_SH.take 88, kI kB1 (kV1.take 3), kJ, kR 85), 0, 0) P
  refine am_s_aload_n rfl dc74_0.1 ?_
  refine am_s_objinit dc74_0.2.1 rfl rfl ?_
  exact am_s_return dc74_0.2.2 rfl kk
theorem kc74_44 {D : Nat} {P : am_O → Prop} (hD : 1 ≤ D) (kk : P (.inl none, (am_SH.take 89, kI kB1 (kV1.take 3), kJ, kR 86), 0, 0)) : am_mth D 74 [.ref 88] (am_SH.take 89, kI kB1 (kV1.take 3), kJ, kR 86) P := by
  obtain ⟨d, rfl⟩ : ∃ d, D = d + 1 := ⟨D - 1, by omega⟩
  refine am_mth_of rfl rfl ?_
  show am_go none d 74 (0, [some (.ref 88)], [], (am_SH.take 89, kI kB1 (kV1.take 3), kJ, kR 86), 0, 0) P
  refine am_s_aload_n rfl dc74_0.1 ?_
  refine am_s_objinit dc74_0.2.1 rfl rfl ?_
  exact am_s_return dc74_0.2.2 rfl kk
