/-! The class is made, 2 -/
theorem kc74_45 {D : Nat} {P : am_O → Prop} (hD : 1 ≤ D) (kk : P (.inl none, (am_SH.take 90, kI kB1 (kV1.take 3), kJ, kR 87), 0, 0)) : am_mth D 74 [.ref 89] (am_SH.take 90, kI kB1 (kV1.take 3), kJ, kR 87) P := by
  obtain ⟨d, rfl⟩ : ∃ d, D = d + 1 := ⟨D - 1, by omega⟩
  refine am_mth_of rfl rfl ?_
  show am_go none d 74 (0, [some (.ref 89)], [], (am_SH.take 90, kI kB1 (kV1.take 3), kJ, kR 87), 0, 0) P
  refine am_s_aload_n rfl dc74_0.1 ?_
  refine am_s_objinit dc74_0.2.1 rfl rfl ?_
  exact am_s_return dc74_0.2.2 rfl kk
theorem kc74_46 {D : Nat} {P : am_O → Prop} (hD : 1 ≤ D) (kk : P (.inl none, (am_SH.take 91, kI kB1 (kV1.take 3), kJ, kR 88), 0, 0)) : am_mth D 74 [.ref 90] (am_SH.take 91, kI kB1 (kV1.take 3), kJ, kR 88) P := by
  obtain ⟨d, rfl⟩ : ∃ d, D = d + 1 := ⟨D - 1, by omega⟩
  refine am_mth_of rfl rfl ?_
  show am_go none d 74 (0, [some (.ref 90)], [], (am_SH.take 91, kI kB1 (kV1.take 3), kJ, kR 88), 0, 0) P
  refine am_s_aload_n rfl dc74_0.1 ?_
  refine am_s_objinit dc74_0.2.1 rfl rfl ?_
  exact am_s_return dc74_0.2.2 rfl kk
theorem kc74_47 {D : Nat} {P : am_O → Prop} (hD : 1 ≤ D) (kk : P (.inl none, (am_SH.take 92, kI kB1 (kV1.take 3), kJ, kR 89), 0, 0)) : am_mth D 74 [.ref 91] (am_SH.take 92, kI kB1 (kV1.take 3), kJ, kR 89) P := by
  obtain ⟨d, rfl⟩ : ∃ d, D = d + 1 := ⟨D - 1, by omega⟩
  refine am_mth_of rfl rfl ?_
  show am_go none d 74 (0, [some (.ref 91)], [], (am_SH.take 92, kI kB1 (kV1.take 3), kJ, kR 89), 0, 0) P
  refine am_s_aload_n rfl dc74_0.1 ?_
  refine am_s_objinit dc74_0.2.1 rfl rfl ?_
  exact am_s_return dc74_0.2.2 rfl kk
theorem kc74_48 {D : Nat} {P : am_O → Prop} (hD : 1 ≤ D) (kk : P (.inl none, (am_SH.take 93, kI kB1 (kV1.take 3), kJ, kR 90), 0, 0)) : am_mth D 74 [.ref 92] (am_SH.take 93, kI kB1 (kV1.take 3), kJ, kR 90) P := by
  obtain ⟨d, rfl⟩ : ∃ d, D = d + 1 := ⟨D - 1, by omega⟩
  refine am_mth_of rfl rfl ?_
  show am_go none d 74 (0, [some (.ref 92)], [], (am_SH.take 93, kI kB1 (kV1.take 3), kJ, kR 90), 0, 0) P
  refine am_s_aload_n rfl dc74_0.1 ?_
  refine am_s_objinit dc74_0.2.1 rfl rfl ?_
  exact am_s_return dc74_0.2.2 rfl kk
theorem kc74_49 {D : Nat} {P : am_O → Prop} (hD : 1 ≤ D) (kk : P (.inl none, (am_SH.take 94, kI kB1 (kV1.take 3), kJ, kR 91), 0, 0)) : am_mth D 74 [.ref 93] (am_SH.take 94, kI kB1 (kV1.take 3), kJ, kR 91) P := by
  obtain ⟨d, rfl⟩ : ∃ d, D = d + 1 := ⟨D - 1, by omega⟩
  refine am_mth_of rfl rfl ?_
  show am_go none d 74 (0, [some (.ref 93)], [], (am_SH.take 94, kI kB1 (kV1.take 3), kJ, kR 91), 0, 0) P
  refine am_s_aload_n rfl dc74_0.1 ?_
  refine am_s_objinit dc74_0.2.1 rfl rfl ?_
  exact am_s_return dc74_0.2.2 rfl kk
theorem kc66_31 {D : Nat} {P : am_O → Prop} (hD : 3 ≤ D) (kk : P (.inl none, (am_SH.take 94, kI kB1 (kV1.take 3), kJ, kR 92), 38, 1130)) : am_mth D 66 [.ref 55] (am_SH.take 56, kI kB1 (kV1.take 2), kJ, kR 54) P := by
  obtain ⟨d, rfl⟩ : ∃ d, D = d + 1 := ⟨D - 1, by omega⟩
  refine am_mth_of rfl rfl ?_
  show am_go none d 66 (0, [some (.ref 55), none], [], (am_SH.take 56, kI kB1 (kV1.take 2), kJ, kR 54), 0, 0) P
  refine am_s_aload_n rfl dc66_0.1.1.1 ?_
  refine am_s_objinit dc66_0.1.1.2 rfl rfl ?_
  refine am_s_aload_n rfl dc66_0.1.2.1 ?_
  refine am_s_bipush (x := 8) (by decide) dc66_0.1.2.2 ?_
  refine kb_anewarray (k2 := 1) (n2 := 8) (L := 8) dc66_0.2.1.1 rfl rfl rfl (by decide +kernel) kZ1 (by decide +kernel) (by decide +kernel) (by decide) rfl rfl ?_
  refine kb_putR dc66_0.2.1.2 rfl (kS rfl (by decide)) rfl rfl (by decide +kernel) (by decide +kernel) ?_
  refine am_s_aload_n rfl dc66_0.2.2.1 ?_
  refine am_s_bipush (x := 20) (by decide) dc66_0.2.2.2 ?_
  refine kb_newarray (k2 := 2) (n2 := 28) (L := 20) dc66_1.1.1.1 rfl rfl (by decide +kernel) kZ1 (by decide +kernel) (by decide +kernel) (by decide) rfl rfl ?_
  refine kb_putR dc66_1.1.1.2 rfl (kS rfl (by decide)) rfl rfl (by decide +kernel) (by decide +kernel) ?_
  refine am_s_aload_n rfl dc66_1.1.2.1 ?_
  refine am_s_bipush (x := 20) (by decide) dc66_1.1.2.2 ?_
  refine kb_newarray (k2 := 3) (n2 := 48) (L := 20) dc66_1.2.1.1 rfl rfl (by decide +kernel) kZ1 (by decide +kernel) (by decide +kernel) (by decide) rfl rfl ?_
  refine kb_putR dc66_1.2.1.2 rfl (kS rfl (by decide)) rfl rfl (by decide +kernel) (by decide +kernel) ?_
  refine am_s_aload_n rfl dc66_1.2.2.1 ?_
  refine am_s_bipush (x := 20) (by decide) dc66_1.2.2.2 ?_
  refine kb_newarray (k2 := 4) (n2 := 68) (L := 20) dc66_2.1.1.1 rfl rfl (by decide +kernel) kZ1 (by decide +kernel) (by decide +kernel) (by decide) rfl rfl ?_
  refine kb_putR dc66_2.1.1.2 rfl (kS rfl (by decide)) rfl rfl (by decide +kernel) (by decide +kernel) ?_
  refine am_s_aload_n rfl dc66_2.1.2.1 ?_
  refine am_s_bipush (x := 80) (by decide) dc66_2.1.2.2 ?_
  refine kb_newarray (k2 := 5) (n2 := 148) (L := 80) dc66_2.2.1.1 rfl rfl (by decide +kernel) kZ1 (by decide +kernel) (by decide +kernel) (by decide) rfl rfl ?_
  refine kb_putR dc66_2.2.1.2 rfl (kS rfl (by decide)) rfl rfl (by decide +kernel) (by decide +kernel) ?_
  refine am_s_aload_n rfl dc66_2.2.2.1 ?_
  refine am_s_bipush (x := 80) (by decide) dc66_2.2.2.2 ?_
  refine kb_newarray (k2 := 6) (n2 := 228) (L := 80) dc66_3.1.1.1 rfl rfl (by decide +kernel) kZ1 (by decide +kernel) (by decide +kernel) (by decide) rfl rfl ?_
  refine kb_putR dc66_3.1.1.2 rfl (kS rfl (by decide)) rfl rfl (by decide +kernel) (by decide +kernel) ?_
  refine am_s_aload_n rfl dc66_3.1.2.1 ?_
  refine am_s_sipush (x := 640) (by decide) dc66_3.1.2.2 ?_
  refine kb_newarray (k2 := 7) (n2 := 868) (L := 640) dc66_3.2.1.1 rfl rfl (by decide +kernel) kZ1 (by decide +kernel) (by decide +kernel) (by decide) rfl rfl ?_
  refine kb_putR dc66_3.2.1.2 rfl (kS rfl (by decide)) rfl rfl (by decide +kernel) (by decide +kernel) ?_
  refine am_s_aload_n rfl dc66_3.2.2.1 ?_
  refine am_s_iconst (x := 4) (by decide) dc66_3.2.2.2 ?_
  refine kb_newarray (k2 := 8) (n2 := 872) (L := 4) dc66_4.1.1.1 rfl rfl (by decide +kernel) kZ1 (by decide +kernel) (by decide +kernel) (by decide) rfl rfl ?_
  refine kb_putR dc66_4.1.1.2 rfl (kS rfl (by decide)) rfl rfl (by decide +kernel) (by decide +kernel) ?_
  refine am_s_aload_n rfl dc66_4.1.2.1 ?_
  refine am_s_iconst (x := 4) (by decide) dc66_4.1.2.2 ?_
  refine kb_newarray (k2 := 9) (n2 := 876) (L := 4) dc66_4.2.1.1 rfl rfl (by decide +kernel) kZ1 (by decide +kernel) (by decide +kernel) (by decide) rfl rfl ?_
  refine kb_putR dc66_4.2.1.2 rfl (kS rfl (by decide)) rfl rfl (by decide +kernel) (by decide +kernel) ?_
  refine am_s_aload_n rfl dc66_4.2.2.1 ?_
  refine am_s_bipush (x := 12) (by decide) dc66_4.2.2.2 ?_
  refine kb_newarray (k2 := 10) (n2 := 888) (L := 12) dc66_5.1.1.1 rfl rfl (by decide +kernel) kZ1 (by decide +kernel) (by decide +kernel) (by decide) rfl rfl ?_
  refine kb_putR dc66_5.1.1.2 rfl (kS rfl (by decide)) rfl rfl (by decide +kernel) (by decide +kernel) ?_
  refine am_s_aload_n rfl dc66_5.1.2.1 ?_
  refine am_s_bipush (x := 8) (by decide) dc66_5.1.2.2 ?_
  refine kb_newarray (k2 := 11) (n2 := 896) (L := 8) dc66_5.2.1.1 rfl rfl (by decide +kernel) kZ1 (by decide +kernel) (by decide +kernel) (by decide) rfl rfl ?_
  refine kb_putR dc66_5.2.1.2 rfl (kS rfl (by decide)) rfl rfl (by decide +kernel) (by decide +kernel) ?_
  refine am_s_aload_n rfl dc66_5.2.2.1 ?_
  refine am_s_bipush (x := 8) (by decide) dc66_5.2.2.2 ?_
  refine kb_newarray (k2 := 12) (n2 := 904) (L := 8) dc66_6.1.1.1 rfl rfl (by decide +kernel) kZ1 (by decide +kernel) (by decide +kernel) (by decide) rfl rfl ?_
  refine kb_putR dc66_6.1.1.2 rfl (kS rfl (by decide)) rfl rfl (by decide +kernel) (by decide +kernel) ?_
  refine am_s_aload_n rfl dc66_6.1.2.1 ?_
  refine am_s_bipush (x := 8) (by decide) dc66_6.1.2.2 ?_
  refine kb_newarray (k2 := 13) (n2 := 912) (L := 8) dc66_6.2.1.1 rfl rfl (by decide +kernel) kZ1 (by decide +kernel) (by decide +kernel) (by decide) rfl rfl ?_
  refine kb_putR dc66_6.2.1.2 rfl (kS rfl (by decide)) rfl rfl (by decide +kernel) (by decide +kernel) ?_
  refine am_s_aload_n rfl dc66_6.2.2.1 ?_
  refine am_s_bipush (x := 8) (by decide) dc66_6.2.2.2 ?_
  refine kb_newarray (k2 := 14) (n2 := 920) (L := 8) dc66_7.1.1.1 rfl rfl (by decide +kernel) kZ1 (by decide +kernel) (by decide +kernel) (by decide) rfl rfl ?_
  refine kb_putR dc66_7.1.1.2 rfl (kS rfl (by decide)) rfl rfl (by decide +kernel) (by decide +kernel) ?_
  refine am_s_aload_n rfl dc66_7.1.2.1 ?_
  refine am_s_iconst (x := (-1)) (by decide) dc66_7.1.2.2 ?_
  refine kb_putI dc66_7.2.1.1 rfl (kS rfl (by decide)) rfl rfl (by decide +kernel) ?_
  refine am_s_aload_n rfl dc66_7.2.1.2 ?_
  refine kb_new (k2 := 15) (n2 := 929) (m := 9) dc66_7.2.2.1 rfl rfl (by decide +kernel) kZ1 (by decide +kernel) (by decide +kernel) rfl rfl rfl ?_
  refine am_s_dup rfl dc66_7.2.2.2 ?_
  refine am_s_init dc66_8.1.1.1 rfl rfl rfl rfl (kc90_32 (by omega) (kb_back (k2 := 30) (n2 := 1114) (by decide +kernel) rfl rfl ?_))
  refine kb_putR dc66_8.1.1.2 rfl (kS rfl (by decide)) rfl rfl (by decide +kernel) (by decide +kernel) ?_
  refine am_s_iconst (x := 0) (by decide) dc66_8.1.2.1 ?_
  refine am_s_istore_n (ls' := [some (.ref 55), some (.int 0)]) rfl rfl dc66_8.1.2.2 ?_
  refine am_s_iload_n rfl dc66_8.2.1.1 ?_
  refine am_s_bipush (x := 8) (by decide) dc66_8.2.1.2 ?_
  refine am_s_ic_ge dc66_8.2.2.1 rfl (fun z => absurd z (by decide)) (fun _ => ?_)
  refine am_s_aload_n rfl dc66_8.2.2.2 ?_
  refine am_s_getR (r := 56) dc66_9.1.1.1 rfl (kS rfl (by decide)) rfl (by decide +kernel) ?_
  refine am_s_iload_n rfl dc66_9.1.1.2 ?_
  refine kb_new (k2 := 31) (n2 := 1116) (m := 2) dc66_9.1.2.1 rfl rfl (by decide +kernel) kZ1 (by decide +kernel) (by decide +kernel) rfl rfl rfl ?_
  refine am_s_dup rfl dc66_9.1.2.2 ?_
  refine am_s_init dc66_9.2.1.1 rfl rfl rfl rfl (kc74_42 (by omega) (kb_back (k2 := 31) (n2 := 1116) (by decide +kernel) rfl rfl ?_))
  refine kb_aastore (m := 0) dc66_9.2.1.2 (kS rfl (by decide)) rfl (kS rfl (by decide)) (by decide) (by decide) (by decide +kernel) ?_
  refine kb_iinc (ls' := [some (.ref 55), some (.int 1)]) (c := 1) (x2 := 1) (by decide) (by decide) rfl rfl dc66_9.2.2.1 ?_
  refine am_s_goto rfl dc66_9.2.2.2 ?_
  refine am_s_iload_n rfl dc66_8.2.1.1 ?_
  refine am_s_bipush (x := 8) (by decide) dc66_8.2.1.2 ?_
  refine am_s_ic_ge dc66_8.2.2.1 rfl (fun z => absurd z (by decide)) (fun _ => ?_)
  refine am_s_aload_n rfl dc66_8.2.2.2 ?_
  refine am_s_getR (r := 56) dc66_9.1.1.1 rfl (kS rfl (by decide)) rfl (by decide +kernel) ?_
  refine am_s_iload_n rfl dc66_9.1.1.2 ?_
  refine kb_new (k2 := 32) (n2 := 1118) (m := 2) dc66_9.1.2.1 rfl rfl (by decide +kernel) kZ1 (by decide +kernel) (by decide +kernel) rfl rfl rfl ?_
  refine am_s_dup rfl dc66_9.1.2.2 ?_
  refine am_s_init dc66_9.2.1.1 rfl rfl rfl rfl (kc74_43 (by omega) (kb_back (k2 := 32) (n2 := 1118) (by decide +kernel) rfl rfl ?_))
  refine kb_aastore (m := 1) dc66_9.2.1.2 (kS rfl (by decide)) rfl (kS rfl (by decide)) (by decide) (by decide) (by decide +kernel) ?_
  refine kb_iinc (ls' := [some (.ref 55), some (.int 2)]) (c := 1) (x2 := 2) (by decide) (by decide) rfl rfl dc66_9.2.2.1 ?_
  refine am_s_goto rfl dc66_9.2.2.2 ?_
  refine am_s_iload_n rfl dc66_8.2.1.1 ?_
  refine am_s_bipush (x := 8) (by decide) dc66_8.2.1.2 ?_
  refine am_s_ic_ge dc66_8.2.2.1 rfl (fun z => absurd z (by decide)) (fun _ => ?_)
  refine am_s_aload_n rfl dc66_8.2.2.2 ?_
  refine am_s_getR (r := 56) dc66_9.1.1.1 rfl (kS rfl (by decide)) rfl (by decide +kernel) ?_
  refine am_s_iload_n rfl dc66_9.1.1.2 ?_
  refine kb_new (k2 := 33) (n2 := 1120) (m := 2) dc66_9.1.2.1 rfl rfl (by decide +kernel) kZ1 (by decide +kernel) (by decide +kernel) rfl rfl rfl ?_
  refine am_s_dup rfl dc66_9.1.2.2 ?_
  refine am_s_init dc66_9.2.1.1 rfl rfl rfl rfl (kc74_44 (by omega) (kb_back (k2 := 33) (n2 := 1120) (by decide +kernel) rfl rfl ?_))
  refine kb_aastore (m := 2) dc66_9.2.1.2 (kS rfl (by decide)) rfl (kS rfl (by decide)) (by decide) (by decide) (by decide +kernel) ?_
  refine kb_iinc (ls' := [some (.ref 55), some (.int 3)]) (c := 1) (x2 := 3) (by decide) (by decide) rfl rfl dc66_9.2.2.1 ?_
  refine am_s_goto rfl dc66_9.2.2.2 ?_
  refine am_s_iload_n rfl dc66_8.2.1.1 ?_
  refine am_s_bipush (x := 8) (by decide) dc66_8.2.1.2 ?_
  refine am_s_ic_ge dc66_8.2.2.1 rfl (fun z => absurd z (by decide)) (fun _ => ?_)
  refine am_s_aload_n rfl dc66_8.2.2.2 ?_
  refine am_s_getR (r := 56) dc66_9.1.1.1 rfl (kS rfl (by decide)) rfl (by decide +kernel) ?_
  refine am_s_iload_n rfl dc66_9.1.1.2 ?_
  refine kb_new (k2 := 34) (n2 := 1122) (m := 2) dc66_9.1.2.1 rfl rfl (by decide +kernel) kZ1 (by decide +kernel) (by decide +kernel) rfl rfl rfl ?_
  refine am_s_dup rfl dc66_9.1.2.2 ?_
  refine am_s_init dc66_9.2.1.1 rfl rfl rfl rfl (kc74_45 (by omega) (kb_back (k2 := 34) (n2 := 1122) (by decide +kernel) rfl rfl ?_))
  refine kb_aastore (m := 3) dc66_9.2.1.2 (kS rfl (by decide)) rfl (kS rfl (by decide)) (by decide) (by decide) (by decide +kernel) ?_
  refine kb_iinc (ls' := [some (.ref 55), some (.int 4)]) (c := 1) (x2 := 4) (by decide) (by decide) rfl rfl dc66_9.2.2.1 ?_
  refine am_s_goto rfl dc66_9.2.2.2 ?_
  refine am_s_iload_n rfl dc66_8.2.1.1 ?_
  refine am_s_bipush (x := 8) (by decide) dc66_8.2.1.2 ?_
  refine am_s_ic_ge dc66_8.2.2.1 rfl (fun z => absurd z (by decide)) (fun _ => ?_)
  refine am_s_aload_n rfl dc66_8.2.2.2 ?_
  refine am_s_getR (r := 56) dc66_9.1.1.1 rfl (kS rfl (by decide)) rfl (by decide +kernel) ?_
  refine am_s_iload_n rfl dc66_9.1.1.2 ?_
  refine kb_new (k2 := 35) (n2 := 1124) (m := 2) dc66_9.1.2.1 rfl rfl (by decide +kernel) kZ1 (by decide +kernel) (by decide +kernel) rfl rfl rfl ?_
  refine am_s_dup rfl dc66_9.1.2.2 ?_
  refine am_s_init dc66_9.2.1.1 rfl rfl rfl rfl (kc74_46 (by omega) (kb_back (k2 := 35) (n2 := 1124) (by decide +kernel) rfl rfl ?_))
  refine kb_aastore (m := 4) dc66_9.2.1.2 (kS rfl (by decide)) rfl (kS rfl (by decide)) (by decide) (by decide) (by decide +kernel) ?_
  refine kb_iinc (ls' := [some (.ref 55), some (.int 5)]) (c := 1) (x2 := 5) (by decide) (by decide) rfl rfl dc66_9.2.2.1 ?_
  refine am_s_goto rfl dc66_9.2.2.2 ?_
  refine am_s_iload_n rfl dc66_8.2.1.1 ?_
  refine am_s_bipush (x := 8) (by decide) dc66_8.2.1.2 ?_
  refine am_s_ic_ge dc66_8.2.2.1 rfl (fun z => absurd z (by decide)) (fun _ => ?_)
  refine am_s_aload_n rfl dc66_8.2.2.2 ?_
  refine am_s_getR (r := 56) dc66_9.1.1.1 rfl (kS rfl (by decide)) rfl (by decide +kernel) ?_
  refine am_s_iload_n rfl dc66_9.1.1.2 ?_
  refine kb_new (k2 := 36) (n2 := 1126) (m := 2) dc66_9.1.2.1 rfl rfl (by decide +kernel) kZ1 (by decide +kernel) (by decide +kernel) rfl rfl rfl ?_
  refine am_s_dup rfl dc66_9.1.2.2 ?_
  refine am_s_init dc66_9.2.1.1 rfl rfl rfl rfl (kc74_47 (by omega) (kb_back (k2 := 36) (n2 := 1126) (by decide +kernel) rfl rfl ?_))
  refine kb_aastore (m := 5) dc66_9.2.1.2 (kS rfl (by decide)) rfl (kS rfl (by decide)) (by decide) (by decide) (by decide +kernel) ?_
  refine kb_iinc (ls' := [some (.ref 55), some (.int 6)]) (c := 1) (x2 := 6) (by decide) (by decide) rfl rfl dc66_9.2.2.1 ?_
  refine am_s_goto rfl dc66_9.2.2.2 ?_
  refine am_s_iload_n rfl dc66_8.2.1.1 ?_
  refine am_s_bipush (x := 8) (by decide) dc66_8.2.1.2 ?_
  refine am_s_ic_ge dc66_8.2.2.1 rfl (fun z => absurd z (by decide)) (fun _ => ?_)
  refine am_s_aload_n rfl dc66_8.2.2.2 ?_
  refine am_s_getR (r := 56) dc66_9.1.1.1 rfl (kS rfl (by decide)) rfl (by decide +kernel) ?_
  refine am_s_iload_n rfl dc66_9.1.1.2 ?_
  refine kb_new (k2 := 37) (n2 := 1128) (m := 2) dc66_9.1.2.1 rfl rfl (by decide +kernel) kZ1 (by decide +kernel) (by decide +kernel) rfl rfl rfl ?_
  refine am_s_dup rfl dc66_9.1.2.2 ?_
  refine am_s_init dc66_9.2.1.1 rfl rfl rfl rfl (kc74_48 (by omega) (kb_back (k2 := 37) (n2 := 1128) (by decide +kernel) rfl rfl ?_))
  refine kb_aastore (m := 6) dc66_9.2.1.2 (kS rfl (by decide)) rfl (kS rfl (by decide)) (by decide) (by decide) (by decide +kernel) ?_
  refine kb_iinc (ls' := [some (.ref 55), some (.int 7)]) (c := 1) (x2 := 7) (by decide) (by decide) rfl rfl dc66_9.2.2.1 ?_
  refine am_s_goto rfl dc66_9.2.2.2 ?_
  refine am_s_iload_n rfl dc66_8.2.1.1 ?_
  refine am_s_bipush (x := 8) (by decide) dc66_8.2.1.2 ?_
  refine am_s_ic_ge dc66_8.2.2.1 rfl (fun z => absurd z (by decide)) (fun _ => ?_)
  refine am_s_aload_n rfl dc66_8.2.2.2 ?_
  refine am_s_getR (r := 56) dc66_9.1.1.1 rfl (kS rfl (by decide)) rfl (by decide +kernel) ?_
  refine am_s_iload_n rfl dc66_9.1.1.2 ?_
  refine kb_new (k2 := 38) (n2 := 1130) (m := 2) dc66_9.1.2.1 rfl rfl (by decide +kernel) kZ1 (by decide +kernel) (by decide +kernel) rfl rfl rfl ?_
  refine am_s_dup rfl dc66_9.1.2.2 ?_
  refine am_s_init dc66_9.2.1.1 rfl rfl rfl rfl (kc74_49 (by omega) (kb_back (k2 := 38) (n2 := 1130) (by decide +kernel) rfl rfl ?_))
  refine kb_aastore (m := 7) dc66_9.2.1.2 (kS rfl (by decide)) rfl (kS rfl (by decide)) (by decide) (by decide) (by decide +kernel) ?_
  refine kb_iinc (ls' := [some (.ref 55), some (.int 8)]) (c := 1) (x2 := 8) (by decide) (by decide) rfl rfl dc66_9.2.2.1 ?_
  refine am_s_goto rfl dc66_9.2.2.2 ?_
  refine am_s_iload_n rfl dc66_8.2.1.1 ?_
  refine am_s_bipush (x := 8) (by decide) dc66_8.2.1.2 ?_
  refine am_s_ic_ge dc66_8.2.2.1 rfl (fun _ => ?_) (fun z => absurd (by decide) z)
  exact am_s_return dc66_10 rfl kk
theorem kc41_52 {D : Nat} {P : am_O → Prop} (hD : 1 ≤ D) (kk : P (.inl none, (am_SH.take 98, kI kB1 (kV1.take 7), kJ, kR 96), 0, 0)) : am_mth D 41 [.ref 94, .int 0, .int 1] (am_SH.take 98, kI kB1 (kV1.take 4), kJ, kR 96) P := by
  obtain ⟨d, rfl⟩ : ∃ d, D = d + 1 := ⟨D - 1, by omega⟩
  refine am_mth_of rfl rfl ?_
  show am_go none d 41 (0, [some (.ref 94), some (.int 0), some (.int 1)], [], (am_SH.take 98, kI kB1 (kV1.take 4), kJ, kR 96), 0, 0) P
  refine am_s_aload_n rfl dc41_0.1.1.1 ?_
  refine am_x_getI (x := 0) dc41_0.1.1.2 rfl (kS rfl (by decide)) (Or.inl rfl) (by decide +kernel) ?_
  refine am_s_sipush (x := 150) (by decide) dc41_0.1.2.1 ?_
  refine am_s_ic_lt dc41_0.1.2.2 rfl (fun _ => ?_) (fun z => absurd (by decide) z)
  refine am_s_aload_n rfl dc41_0.2.1.2 ?_
  refine am_s_getR (r := 95) dc41_0.2.2.1 rfl (kS rfl (by decide)) rfl (by decide +kernel) ?_
  refine am_s_aload_n rfl dc41_0.2.2.2 ?_
  refine am_x_getI (x := 0) dc41_1.1.1.1 rfl (kS rfl (by decide)) (Or.inl rfl) (by decide +kernel) ?_
  refine am_s_iload_n rfl dc41_1.1.1.2 ?_
  refine kb_iastore (m := 0) dc41_1.1.2.1 (kS rfl (by decide)) (by decide) (by decide) (by decide +kernel) ?_
  refine am_s_aload_n rfl dc41_1.1.2.2 ?_
  refine am_s_getR (r := 96) dc41_1.2.1.1 rfl (kS rfl (by decide)) rfl (by decide +kernel) ?_
  refine am_s_aload_n rfl dc41_1.2.1.2 ?_
  refine am_x_getI (x := 0) dc41_1.2.2.1 rfl (kS rfl (by decide)) (Or.inl rfl) (by decide +kernel) ?_
  refine am_s_iload_n rfl dc41_1.2.2.2 ?_
  refine kb_iastore (m := 0) dc41_2.1.1.1 (kS rfl (by decide)) (by decide) (by decide) (by decide +kernel) ?_
  refine am_s_aload_n rfl dc41_2.1.1.2 ?_
  refine am_s_dup rfl dc41_2.1.2.1 ?_
  refine am_x_getI (x := 0) dc41_2.1.2.2 rfl (kS rfl (by decide)) (Or.inl rfl) (by decide +kernel) ?_
  refine am_s_iconst (x := 1) (by decide) dc41_2.2.1.1 ?_
  refine kb_iadd (x := 1) (by decide) dc41_2.2.1.2 ?_
  refine kb_putI dc41_2.2.2.1 rfl (kS rfl (by decide)) rfl rfl (by decide +kernel) ?_
  exact am_s_return dc41_2.2.2.2 rfl kk
theorem kc40_51 {D : Nat} {P : am_O → Prop} (hD : 2 ≤ D) (kk : P (.inl none, (am_SH.take 98, kI kB1 (kV1.take 7), kJ, kR 96), 0, 0)) : am_mth D 40 [.ref 94] (am_SH.take 98, kI kB1 (kV1.take 3), kJ, kR 96) P := by
  obtain ⟨d, rfl⟩ : ∃ d, D = d + 1 := ⟨D - 1, by omega⟩
  refine am_mth_of rfl rfl ?_
  show am_go none d 40 (0, [some (.ref 94)], [], (am_SH.take 98, kI kB1 (kV1.take 3), kJ, kR 96), 0, 0) P
  refine am_s_aload_n rfl dc40_0.1.1.1 ?_
  refine am_s_iconst (x := 0) (by decide) dc40_0.1.1.2 ?_
  refine kb_putI dc40_0.1.2.1 rfl (kS rfl (by decide)) rfl rfl (by decide +kernel) ?_
  refine am_s_aload_n rfl dc40_0.1.2.2 ?_
  refine am_s_iconst (x := 0) (by decide) dc40_0.2.1.1 ?_
  refine am_s_iconst (x := 1) (by decide) dc40_0.2.1.2 ?_
  refine am_s_virtual true dc40_0.2.2.1 rfl (by decide) rfl (kS rfl (by decide)) rfl (kc41_52 (by omega) (kb_back (k2 := 0) (n2 := 0) (by decide +kernel) rfl rfl ?_))
  exact am_s_return dc40_0.2.2.2 rfl kk
theorem kc39_50 {D : Nat} {P : am_O → Prop} (hD : 3 ≤ D) (kk : P (.inl none, (am_SH.take 98, kI kB1 (kV1.take 7), kJ, kR 96), 3, 450)) : am_mth D 39 [.ref 94] (am_SH.take 95, kI kB1 (kV1.take 3), kJ, kR 93) P := by
  obtain ⟨d, rfl⟩ : ∃ d, D = d + 1 := ⟨D - 1, by omega⟩
  refine am_mth_of rfl rfl ?_
  show am_go none d 39 (0, [some (.ref 94)], [], (am_SH.take 95, kI kB1 (kV1.take 3), kJ, kR 93), 0, 0) P
  refine am_s_aload_n rfl dc39_0.1.1.1 ?_
  refine am_s_objinit dc39_0.1.1.2 rfl rfl ?_
  refine am_s_aload_n rfl dc39_0.1.2.1 ?_
  refine am_s_sipush (x := 150) (by decide) dc39_0.1.2.2 ?_
  refine kb_newarray (k2 := 1) (n2 := 150) (L := 150) dc39_0.2.1.1 rfl rfl (by decide +kernel) kZ1 (by decide +kernel) (by decide +kernel) (by decide) rfl rfl ?_
  refine kb_putR dc39_0.2.1.2 rfl (kS rfl (by decide)) rfl rfl (by decide +kernel) (by decide +kernel) ?_
  refine am_s_aload_n rfl dc39_0.2.2.1 ?_
  refine am_s_sipush (x := 150) (by decide) dc39_0.2.2.2 ?_
  refine kb_newarray (k2 := 2) (n2 := 300) (L := 150) dc39_1.1.1.1 rfl rfl (by decide +kernel) kZ1 (by decide +kernel) (by decide +kernel) (by decide) rfl rfl ?_
  refine kb_putR dc39_1.1.1.2 rfl (kS rfl (by decide)) rfl rfl (by decide +kernel) (by decide +kernel) ?_
  refine am_s_aload_n rfl dc39_1.1.2.1 ?_
  refine am_s_sipush (x := 150) (by decide) dc39_1.1.2.2 ?_
  refine kb_newarray (k2 := 3) (n2 := 450) (L := 150) dc39_1.2.1.1 rfl rfl (by decide +kernel) kZ1 (by decide +kernel) (by decide +kernel) (by decide) rfl rfl ?_
  refine kb_putR dc39_1.2.1.2 rfl (kS rfl (by decide)) rfl rfl (by decide +kernel) (by decide +kernel) ?_
  refine am_s_aload_n rfl dc39_1.2.2.1 ?_
  refine am_s_virtual true dc39_1.2.2.2 rfl (by decide) rfl (kS rfl (by decide)) rfl (kc40_51 (by omega) (kb_back (k2 := 3) (n2 := 450) (by decide +kernel) rfl rfl ?_))
  exact am_s_return dc39_2 rfl kk
theorem kc41_55 {D : Nat} {P : am_O → Prop} (hD : 1 ≤ D) (kk : P (.inl none, (am_SH.take 102, kI kB1 (kV1.take 11), kJ, kR 100), 0, 0)) : am_mth D 41 [.ref 98, .int 0, .int 1] (am_SH.take 102, kI kB1 (kV1.take 8), kJ, kR 100) P := by
  obtain ⟨d, rfl⟩ : ∃ d, D = d + 1 := ⟨D - 1, by omega⟩
  refine am_mth_of rfl rfl ?_
  show am_go none d 41 (0, [some (.ref 98), some (.int 0), some (.int 1)], [], (am_SH.take 102, kI kB1 (kV1.take 8), kJ, kR 100), 0, 0) P
  refine am_s_aload_n rfl dc41_0.1.1.1 ?_
  refine am_x_getI (x := 0) dc41_0.1.1.2 rfl (kS rfl (by decide)) (Or.inl rfl) (by decide +kernel) ?_
  refine am_s_sipush (x := 150) (by decide) dc41_0.1.2.1 ?_
  refine am_s_ic_lt dc41_0.1.2.2 rfl (fun _ => ?_) (fun z => absurd (by decide) z)
  refine am_s_aload_n rfl dc41_0.2.1.2 ?_
  refine am_s_getR (r := 99) dc41_0.2.2.1 rfl (kS rfl (by decide)) rfl (by decide +kernel) ?_
  refine am_s_aload_n rfl dc41_0.2.2.2 ?_
  refine am_x_getI (x := 0) dc41_1.1.1.1 rfl (kS rfl (by decide)) (Or.inl rfl) (by decide +kernel) ?_
  refine am_s_iload_n rfl dc41_1.1.1.2 ?_
  refine kb_iastore (m := 0) dc41_1.1.2.1 (kS rfl (by decide)) (by decide) (by decide) (by decide +kernel) ?_
  refine am_s_aload_n rfl dc41_1.1.2.2 ?_
  refine am_s_getR (r := 100) dc41_1.2.1.1 rfl (kS rfl (by decide)) rfl (by decide +kernel) ?_
  refine am_s_aload_n rfl dc41_1.2.1.2 ?_
  refine am_x_getI (x := 0) dc41_1.2.2.1 rfl (kS rfl (by decide)) (Or.inl rfl) (by decide +kernel) ?_
  refine am_s_iload_n rfl dc41_1.2.2.2 ?_
  refine kb_iastore (m := 0) dc41_2.1.1.1 (kS rfl (by decide)) (by decide) (by decide) (by decide +kernel) ?_
  refine am_s_aload_n rfl dc41_2.1.1.2 ?_
  refine am_s_dup rfl dc41_2.1.2.1 ?_
  refine am_x_getI (x := 0) dc41_2.1.2.2 rfl (kS rfl (by decide)) (Or.inl rfl) (by decide +kernel) ?_
  refine am_s_iconst (x := 1) (by decide) dc41_2.2.1.1 ?_
  refine kb_iadd (x := 1) (by decide) dc41_2.2.1.2 ?_
  refine kb_putI dc41_2.2.2.1 rfl (kS rfl (by decide)) rfl rfl (by decide +kernel) ?_
  exact am_s_return dc41_2.2.2.2 rfl kk
theorem kc40_54 {D : Nat} {P : am_O → Prop} (hD : 2 ≤ D) (kk : P (.inl none, (am_SH.take 102, kI kB1 (kV1.take 11), kJ, kR 100), 0, 0)) : am_mth D 40 [.ref 98] (am_SH.take 102, kI kB1 (kV1.take 7), kJ, kR 100) P := by
  obtain ⟨d, rfl⟩ : ∃ d, D = d + 1 := ⟨D - 1, by omega⟩
  refine am_mth_of rfl rfl ?_
  show am_go none d 40 (0, [some (.ref 98)], [], (am_SH.take 102, kI kB1 (kV1.take 7), kJ, kR 100), 0, 0) P
  refine am_s_aload_n rfl dc40_0.1.1.1 ?_
  refine am_s_iconst (x := 0) (by decide) dc40_0.1.1.2 ?_
  refine kb_putI dc40_0.1.2.1 rfl (kS rfl (by decide)) rfl rfl (by decide +kernel) ?_
  refine am_s_aload_n rfl dc40_0.1.2.2 ?_
  refine am_s_iconst (x := 0) (by decide) dc40_0.2.1.1 ?_
  refine am_s_iconst (x := 1) (by decide) dc40_0.2.1.2 ?_
  refine am_s_virtual true dc40_0.2.2.1 rfl (by decide) rfl (kS rfl (by decide)) rfl (kc41_55 (by omega) (kb_back (k2 := 0) (n2 := 0) (by decide +kernel) rfl rfl ?_))
  exact am_s_return dc40_0.2.2.2 rfl kk
theorem kc39_53 {D : Nat} {P : am_O → Prop} (hD : 3 ≤ D) (kk : P (.inl none, (am_SH.take 102, kI kB1 (kV1.take 11), kJ, kR 100), 3, 450)) : am_mth D 39 [.ref 98] (am_SH.take 99, kI kB1 (kV1.take 7), kJ, kR 97) P := by
  obtain ⟨d, rfl⟩ : ∃ d, D = d + 1 := ⟨D - 1, by omega⟩
  refine am_mth_of rfl rfl ?_
  show am_go none d 39 (0, [some (.ref 98)], [], (am_SH.take 99, kI kB1 (kV1.take 7), kJ, kR 97), 0, 0) P
  refine am_s_aload_n rfl dc39_0.1.1.1 ?_
  refine am_s_objinit dc39_0.1.1.2 rfl rfl ?_
  refine am_s_aload_n rfl dc39_0.1.2.1 ?_
  refine am_s_sipush (x := 150) (by decide) dc39_0.1.2.2 ?_
  refine kb_newarray (k2 := 1) (n2 := 150) (L := 150) dc39_0.2.1.1 rfl rfl (by decide +kernel) kZ1 (by decide +kernel) (by decide +kernel) (by decide) rfl rfl ?_
  refine kb_putR dc39_0.2.1.2 rfl (kS rfl (by decide)) rfl rfl (by decide +kernel) (by decide +kernel) ?_
  refine am_s_aload_n rfl dc39_0.2.2.1 ?_
  refine am_s_sipush (x := 150) (by decide) dc39_0.2.2.2 ?_
  refine kb_newarray (k2 := 2) (n2 := 300) (L := 150) dc39_1.1.1.1 rfl rfl (by decide +kernel) kZ1 (by decide +kernel) (by decide +kernel) (by decide) rfl rfl ?_
  refine kb_putR dc39_1.1.1.2 rfl (kS rfl (by decide)) rfl rfl (by decide +kernel) (by decide +kernel) ?_
  refine am_s_aload_n rfl dc39_1.1.2.1 ?_
  refine am_s_sipush (x := 150) (by decide) dc39_1.1.2.2 ?_
  refine kb_newarray (k2 := 3) (n2 := 450) (L := 150) dc39_1.2.1.1 rfl rfl (by decide +kernel) kZ1 (by decide +kernel) (by decide +kernel) (by decide) rfl rfl ?_
  refine kb_putR dc39_1.2.1.2 rfl (kS rfl (by decide)) rfl rfl (by decide +kernel) (by decide +kernel) ?_
  refine am_s_aload_n rfl dc39_1.2.2.1 ?_
  refine am_s_virtual true dc39_1.2.2.2 rfl (by decide) rfl (kS rfl (by decide)) rfl (kc40_54 (by omega) (kb_back (k2 := 3) (n2 := 450) (by decide +kernel) rfl rfl ?_))
  exact am_s_return dc39_2 rfl kk
theorem kc99_56 {D : Nat} {P : am_O → Prop} (hD : 1 ≤ D) (kk : P (.inl none, (am_SH.take 108, kI kB1 (kV1.take 11), kJ, kR 106), 5, 1657)) : am_mth D 99 [.ref 102] (am_SH.take 103, kI kB1 (kV1.take 11), kJ, kR 101) P := by
  obtain ⟨d, rfl⟩ : ∃ d, D = d + 1 := ⟨D - 1, by omega⟩
  refine am_mth_of rfl rfl ?_
  show am_go none d 99 (0, [some (.ref 102)], [], (am_SH.take 103, kI kB1 (kV1.take 11), kJ, kR 101), 0, 0) P
  refine am_s_aload_n rfl dc99_0.1.1.1 ?_
  refine am_s_objinit dc99_0.1.1.2 rfl rfl ?_
  refine am_s_aload_n rfl dc99_0.1.2.1 ?_
  refine am_s_sipush (x := 150) (by decide) dc99_0.1.2.2 ?_
  refine kb_newarray (k2 := 1) (n2 := 150) (L := 150) dc99_0.2.1.1 rfl rfl (by decide +kernel) kZ1 (by decide +kernel) (by decide +kernel) (by decide) rfl rfl ?_
  refine kb_putR dc99_0.2.1.2 rfl (kS rfl (by decide)) rfl rfl (by decide +kernel) (by decide +kernel) ?_
  refine am_s_aload_n rfl dc99_0.2.2.1 ?_
  refine am_s_sipush (x := 150) (by decide) dc99_0.2.2.2 ?_
  refine kb_newarray (k2 := 2) (n2 := 300) (L := 150) dc99_1.1.1.1 rfl rfl (by decide +kernel) kZ1 (by decide +kernel) (by decide +kernel) (by decide) rfl rfl ?_
  refine kb_putR dc99_1.1.1.2 rfl (kS rfl (by decide)) rfl rfl (by decide +kernel) (by decide +kernel) ?_
  refine am_s_aload_n rfl dc99_1.1.2.1 ?_
  refine am_s_sipush (x := 150) (by decide) dc99_1.1.2.2 ?_
  refine kb_newarray (k2 := 3) (n2 := 450) (L := 150) dc99_1.2.1.1 rfl rfl (by decide +kernel) kZ1 (by decide +kernel) (by decide +kernel) (by decide) rfl rfl ?_
  refine kb_putR dc99_1.2.1.2 rfl (kS rfl (by decide)) rfl rfl (by decide +kernel) (by decide +kernel) ?_
  refine am_s_aload_n rfl dc99_1.2.2.1 ?_
  refine am_s_sipush (x := 1200) (by decide) dc99_1.2.2.2 ?_
  refine kb_newarray (k2 := 4) (n2 := 1650) (L := 1200) dc99_2.1.1 rfl rfl (by decide +kernel) kZ1 (by decide +kernel) (by decide +kernel) (by decide) rfl rfl ?_
  refine kb_putR dc99_2.1.2.1 rfl (kS rfl (by decide)) rfl rfl (by decide +kernel) (by decide +kernel) ?_
  refine am_s_aload_n rfl dc99_2.1.2.2 ?_
  refine am_s_bipush (x := 7) (by decide) dc99_2.2.1.1 ?_
  refine kb_newarray (k2 := 5) (n2 := 1657) (L := 7) dc99_2.2.1.2 rfl rfl (by decide +kernel) kZ1 (by decide +kernel) (by decide +kernel) (by decide) rfl rfl ?_
  refine kb_putR dc99_2.2.2.1 rfl (kS rfl (by decide)) rfl rfl (by decide +kernel) (by decide +kernel) ?_
  exact am_s_return dc99_2.2.2.2 rfl kk
theorem kc70_57 {D : Nat} {P : am_O → Prop} (hD : 1 ≤ D) (kk : P (.inl none, (am_SH.take 111, kI kB1 (kV1.take 11), kJ, kR 109), 2, 425)) : am_mth D 70 [.ref 108] (am_SH.take 109, kI kB1 (kV1.take 11), kJ, kR 107) P := by
  obtain ⟨d, rfl⟩ : ∃ d, D = d + 1 := ⟨D - 1, by omega⟩
  refine am_mth_of rfl rfl ?_
  show am_go none d 70 (0, [some (.ref 108)], [], (am_SH.take 109, kI kB1 (kV1.take 11), kJ, kR 107), 0, 0) P
  refine am_s_aload_n rfl dc70_0.1.1.1 ?_
  refine am_s_objinit dc70_0.1.1.2 rfl rfl ?_
  refine am_s_aload_n rfl dc70_0.1.2.1 ?_
  refine am_s_sipush (x := 408) (by decide) dc70_0.1.2.2 ?_
  refine kb_newarray (k2 := 1) (n2 := 408) (L := 408) dc70_0.2.1.1 rfl rfl (by decide +kernel) kZ1 (by decide +kernel) (by decide +kernel) (by decide) rfl rfl ?_
  refine kb_putR dc70_0.2.1.2 rfl (kS rfl (by decide)) rfl rfl (by decide +kernel) (by decide +kernel) ?_
  refine am_s_aload_n rfl dc70_0.2.2.1 ?_
  refine am_s_bipush (x := 17) (by decide) dc70_0.2.2.2 ?_
  refine kb_newarray (k2 := 2) (n2 := 425) (L := 17) dc70_1.1 rfl rfl (by decide +kernel) kZ1 (by decide +kernel) (by decide +kernel) (by decide) rfl rfl ?_
  refine kb_putR dc70_1.2.1 rfl (kS rfl (by decide)) rfl rfl (by decide +kernel) (by decide +kernel) ?_
  exact am_s_return dc70_1.2.2 rfl kk
theorem kc74_59 {D : Nat} {P : am_O → Prop} (hD : 1 ≤ D) (kk : P (.inl none, (am_SH.take 118, kI kB1 (kV1.take 11), kJ, kR 115), 0, 0)) : am_mth D 74 [.ref 117] (am_SH.take 118, kI kB1 (kV1.take 11), kJ, kR 115) P := by
  obtain ⟨d, rfl⟩ : ∃ d, D = d + 1 := ⟨D - 1, by omega⟩
  refine am_mth_of rfl rfl ?_
  show am_go none d 74 (0, [some (.ref 117)], [], (am_SH.take 118, kI kB1 (kV1.take 11), kJ, kR 115), 0, 0) P
  refine am_s_aload_n rfl dc74_0.1 ?_
  refine am_s_objinit dc74_0.2.1 rfl rfl ?_
  exact am_s_return dc74_0.2.2 rfl kk
theorem kc108_60 {D : Nat} {P : am_O → Prop} (hD : 1 ≤ D) (kk : P (.inl none, (am_SH.take 125, kI kB1 (kV1.take 11), kJ, kR 122), 4, 349)) : am_mth D 108 [.ref 120] (am_SH.take 121, kI kB1 (kV1.take 11), kJ, kR 118) P := by
  obtain ⟨d, rfl⟩ : ∃ d, D = d + 1 := ⟨D - 1, by omega⟩
  refine am_mth_of rfl rfl ?_
  show am_go none d 108 (0, [some (.ref 120)], [], (am_SH.take 121, kI kB1 (kV1.take 11), kJ, kR 118), 0, 0) P
  refine am_s_aload_n rfl dc108_0.1.1.1 ?_
  refine am_s_objinit dc108_0.1.1.2 rfl rfl ?_
  refine am_s_aload_n rfl dc108_0.1.2.1 ?_
  refine am_s_bipush (x := 24) (by decide) dc108_0.1.2.2 ?_
  refine kb_newarray (k2 := 1) (n2 := 24) (L := 24) dc108_0.2.1.1 rfl rfl (by decide +kernel) kZ1 (by decide +kernel) (by decide +kernel) (by decide) rfl rfl ?_
  refine kb_putR dc108_0.2.1.2 rfl (kS rfl (by decide)) rfl rfl (by decide +kernel) (by decide +kernel) ?_
  refine am_s_aload_n rfl dc108_0.2.2.1 ?_
  refine am_s_bipush (x := 25) (by decide) dc108_0.2.2.2 ?_
  refine kb_newarray (k2 := 2) (n2 := 49) (L := 25) dc108_1.1.1.1 rfl rfl (by decide +kernel) kZ1 (by decide +kernel) (by decide +kernel) (by decide) rfl rfl ?_
  refine kb_putR dc108_1.1.1.2 rfl (kS rfl (by decide)) rfl rfl (by decide +kernel) (by decide +kernel) ?_
  refine am_s_aload_n rfl dc108_1.1.2.1 ?_
  refine am_s_sipush (x := 200) (by decide) dc108_1.1.2.2 ?_
  refine kb_newarray (k2 := 3) (n2 := 249) (L := 200) dc108_1.2.1.1 rfl rfl (by decide +kernel) kZ1 (by decide +kernel) (by decide +kernel) (by decide) rfl rfl ?_
  refine kb_putR dc108_1.2.1.2 rfl (kS rfl (by decide)) rfl rfl (by decide +kernel) (by decide +kernel) ?_
  refine am_s_aload_n rfl dc108_1.2.2.1 ?_
  refine am_s_bipush (x := 100) (by decide) dc108_1.2.2.2 ?_
  refine kb_newarray (k2 := 4) (n2 := 349) (L := 100) dc108_2.1 rfl rfl (by decide +kernel) kZ1 (by decide +kernel) (by decide +kernel) (by decide) rfl rfl ?_
  refine kb_putR dc108_2.2.1 rfl (kS rfl (by decide)) rfl rfl (by decide +kernel) (by decide +kernel) ?_
  exact am_s_return dc108_2.2.2 rfl kk
theorem kc108_61 {D : Nat} {P : am_O → Prop} (hD : 1 ≤ D) (kk : P (.inl none, (am_SH.take 130, kI kB1 (kV1.take 11), kJ, kR 127), 4, 349)) : am_mth D 108 [.ref 125] (am_SH.take 126, kI kB1 (kV1.take 11), kJ, kR 123) P := by
  obtain ⟨d, rfl⟩ : ∃ d, D = d + 1 := ⟨D - 1, by omega⟩
  refine am_mth_of rfl rfl ?_
  show am_go none d 108 (0, [some (.ref 125)], [], (am_SH.take 126, kI kB1 (kV1.take 11), kJ, kR 123), 0, 0) P
  refine am_s_aload_n rfl dc108_0.1.1.1 ?_
  refine am_s_objinit dc108_0.1.1.2 rfl rfl ?_
  refine am_s_aload_n rfl dc108_0.1.2.1 ?_
  refine am_s_bipush (x := 24) (by decide) dc108_0.1.2.2 ?_
  refine kb_newarray (k2 := 1) (n2 := 24) (L := 24) dc108_0.2.1.1 rfl rfl (by decide +kernel) kZ1 (by decide +kernel) (by decide +kernel) (by decide) rfl rfl ?_
  refine kb_putR dc108_0.2.1.2 rfl (kS rfl (by decide)) rfl rfl (by decide +kernel) (by decide +kernel) ?_
  refine am_s_aload_n rfl dc108_0.2.2.1 ?_
  refine am_s_bipush (x := 25) (by decide) dc108_0.2.2.2 ?_
  refine kb_newarray (k2 := 2) (n2 := 49) (L := 25) dc108_1.1.1.1 rfl rfl (by decide +kernel) kZ1 (by decide +kernel) (by decide +kernel) (by decide) rfl rfl ?_
  refine kb_putR dc108_1.1.1.2 rfl (kS rfl (by decide)) rfl rfl (by decide +kernel) (by decide +kernel) ?_
  refine am_s_aload_n rfl dc108_1.1.2.1 ?_
  refine am_s_sipush (x := 200) (by decide) dc108_1.1.2.2 ?_
  refine kb_newarray (k2 := 3) (n2 := 249) (L := 200) dc108_1.2.1.1 rfl rfl (by decide +kernel) kZ1 (by decide +kernel) (by decide +kernel) (by decide) rfl rfl ?_
  refine kb_putR dc108_1.2.1.2 rfl (kS rfl (by decide)) rfl rfl (by decide +kernel) (by decide +kernel) ?_
  refine am_s_aload_n rfl dc108_1.2.2.1 ?_
  refine am_s_bipush (x := 100) (by decide) dc108_1.2.2.2 ?_
  refine kb_newarray (k2 := 4) (n2 := 349) (L := 100) dc108_2.1 rfl rfl (by decide +kernel) kZ1 (by decide +kernel) (by decide +kernel) (by decide) rfl rfl ?_
  refine kb_putR dc108_2.2.1 rfl (kS rfl (by decide)) rfl rfl (by decide +kernel) (by decide +kernel) ?_
  exact am_s_return dc108_2.2.2 rfl kk
theorem kc108_62 {D : Nat} {P : am_O → Prop} (hD : 1 ≤ D) (kk : P (.inl none, (am_SH.take 135, kI kB1 (kV1.take 11), kJ, kR 132), 4, 349)) : am_mth D 108 [.ref 130] (am_SH.take 131, kI kB1 (kV1.take 11), kJ, kR 128) P := by
  obtain ⟨d, rfl⟩ : ∃ d, D = d + 1 := ⟨D - 1, by omega⟩
  refine am_mth_of rfl rfl ?_
  show am_go none d 108 (0, [some (.ref 130)], [], (am_SH.take 131, kI kB1 (kV1.take 11), kJ, kR 128), 0, 0) P
  refine am_s_aload_n rfl dc108_0.1.1.1 ?_
  refine am_s_objinit dc108_0.1.1.2 rfl rfl ?_
  refine am_s_aload_n rfl dc108_0.1.2.1 ?_
  refine am_s_bipush (x := 24) (by decide) dc108_0.1.2.2 ?_
  refine kb_newarray (k2 := 1) (n2 := 24) (L := 24) dc108_0.2.1.1 rfl rfl (by decide +kernel) kZ1 (by decide +kernel) (by decide +kernel) (by decide) rfl rfl ?_
  refine kb_putR dc108_0.2.1.2 rfl (kS rfl (by decide)) rfl rfl (by decide +kernel) (by decide +kernel) ?_
  refine am_s_aload_n rfl dc108_0.2.2.1 ?_
  refine am_s_bipush (x := 25) (by decide) dc108_0.2.2.2 ?_
  refine kb_newarray (k2 := 2) (n2 := 49) (L := 25) dc108_1.1.1.1 rfl rfl (by decide +kernel) kZ1 (by decide +kernel) (by decide +kernel) (by decide) rfl rfl ?_
  refine kb_putR dc108_1.1.1.2 rfl (kS rfl (by decide)) rfl rfl (by decide +kernel) (by decide +kernel) ?_
  refine am_s_aload_n rfl dc108_1.1.2.1 ?_
  refine am_s_sipush (x := 200) (by decide) dc108_1.1.2.2 ?_
  refine kb_newarray (k2 := 3) (n2 := 249) (L := 200) dc108_1.2.1.1 rfl rfl (by decide +kernel) kZ1 (by decide +kernel) (by decide +kernel) (by decide) rfl rfl ?_
  refine kb_putR dc108_1.2.1.2 rfl (kS rfl (by decide)) rfl rfl (by decide +kernel) (by decide +kernel) ?_
  refine am_s_aload_n rfl dc108_1.2.2.1 ?_
  refine am_s_bipush (x := 100) (by decide) dc108_1.2.2.2 ?_
  refine kb_newarray (k2 := 4) (n2 := 349) (L := 100) dc108_2.1 rfl rfl (by decide +kernel) kZ1 (by decide +kernel) (by decide +kernel) (by decide) rfl rfl ?_
  refine kb_putR dc108_2.2.1 rfl (kS rfl (by decide)) rfl rfl (by decide +kernel) (by decide +kernel) ?_
  exact am_s_return dc108_2.2.2 rfl kk
theorem kc0_58 {D : Nat} {P : am_O → Prop} (hD : 2 ≤ D) (kk : P (.inl none, (am_SH.take 135, kI kB1 (kV1.take 11), kJ, kR 133), 22, 2119)) : am_mth D 0 [.ref 112] (am_SH.take 113, kI kB1 (kV1.take 11), kJ, kR 111) P := by
  obtain ⟨d, rfl⟩ : ∃ d, D = d + 1 := ⟨D - 1, by omega⟩
  refine am_mth_of rfl rfl ?_
  show am_go none d 0 (0, [some (.ref 112), none], [], (am_SH.take 113, kI kB1 (kV1.take 11), kJ, kR 111), 0, 0) P
  refine am_s_aload_n rfl dc0_0.1.1.1 ?_
  refine am_s_objinit dc0_0.1.1.2 rfl rfl ?_
  refine am_s_aload_n rfl dc0_0.1.2.1 ?_
  refine am_s_iconst (x := 3) (by decide) dc0_0.1.2.2 ?_
  refine kb_anewarray (k2 := 1) (n2 := 3) (L := 3) dc0_0.2.1.1 rfl rfl rfl (by decide +kernel) kZ1 (by decide +kernel) (by decide +kernel) (by decide) rfl rfl ?_
  refine kb_putR dc0_0.2.1.2 rfl (kS rfl (by decide)) rfl rfl (by decide +kernel) (by decide +kernel) ?_
  refine am_s_aload_n rfl dc0_0.2.2.1 ?_
  refine am_s_bipush (x := 8) (by decide) dc0_0.2.2.2 ?_
  refine kb_newarray (k2 := 2) (n2 := 11) (L := 8) dc0_1.1.1.1 rfl rfl (by decide +kernel) kZ1 (by decide +kernel) (by decide +kernel) (by decide) rfl rfl ?_
  refine kb_putR dc0_1.1.1.2 rfl (kS rfl (by decide)) rfl rfl (by decide +kernel) (by decide +kernel) ?_
  refine am_s_aload_n rfl dc0_1.1.2.1 ?_
  refine am_s_bipush (x := 8) (by decide) dc0_1.1.2.2 ?_
  refine kb_newarray (k2 := 3) (n2 := 19) (L := 8) dc0_1.2.1.1 rfl rfl (by decide +kernel) kZ1 (by decide +kernel) (by decide +kernel) (by decide) rfl rfl ?_
  refine kb_putR dc0_1.2.1.2 rfl (kS rfl (by decide)) rfl rfl (by decide +kernel) (by decide +kernel) ?_
  refine am_s_aload_n rfl dc0_1.2.2.1 ?_
  refine am_s_bipush (x := 12) (by decide) dc0_1.2.2.2 ?_
  refine kb_newarray (k2 := 4) (n2 := 31) (L := 12) dc0_2.1.1.1 rfl rfl (by decide +kernel) kZ1 (by decide +kernel) (by decide +kernel) (by decide) rfl rfl ?_
  refine kb_putR dc0_2.1.1.2 rfl (kS rfl (by decide)) rfl rfl (by decide +kernel) (by decide +kernel) ?_
  refine am_s_aload_n rfl dc0_2.1.2.1 ?_
  refine kb_new (k2 := 5) (n2 := 33) (m := 2) dc0_2.1.2.2 rfl rfl (by decide +kernel) kZ1 (by decide +kernel) (by decide +kernel) rfl rfl rfl ?_
  refine am_s_dup rfl dc0_2.2.1.1 ?_
  refine am_s_init dc0_2.2.1.2 rfl rfl rfl rfl (kc74_59 (by omega) (kb_back (k2 := 5) (n2 := 33) (by decide +kernel) rfl rfl ?_))
  refine kb_putR dc0_2.2.2.1 rfl (kS rfl (by decide)) rfl rfl (by decide +kernel) (by decide +kernel) ?_
  refine am_s_aload_n rfl dc0_2.2.2.2 ?_
  refine am_s_sipush (x := 768) (by decide) dc0_3.1.1.1 ?_
  refine kb_newarray (k2 := 6) (n2 := 801) (L := 768) dc0_3.1.1.2 rfl rfl (by decide +kernel) kZ1 (by decide +kernel) (by decide +kernel) (by decide) rfl rfl ?_
  refine kb_putR dc0_3.1.2.1 rfl (kS rfl (by decide)) rfl rfl (by decide +kernel) (by decide +kernel) ?_
  refine am_s_aload_n rfl dc0_3.1.2.2 ?_
  refine am_s_sipush (x := 256) (by decide) dc0_3.2.1.1 ?_
  refine kb_newarray (k2 := 7) (n2 := 1057) (L := 256) dc0_3.2.1.2 rfl rfl (by decide +kernel) kZ1 (by decide +kernel) (by decide +kernel) (by decide) rfl rfl ?_
  refine kb_putR dc0_3.2.2.1 rfl (kS rfl (by decide)) rfl rfl (by decide +kernel) (by decide +kernel) ?_
  refine am_s_iconst (x := 0) (by decide) dc0_3.2.2.2 ?_
  refine am_s_istore_n (ls' := [some (.ref 112), some (.int 0)]) rfl rfl dc0_4.1.1.1 ?_
  refine am_s_iload_n rfl dc0_4.1.1.2 ?_
  refine am_s_aload_n rfl dc0_4.1.2.1 ?_
  refine am_s_getR (r := 113) dc0_4.1.2.2 rfl (kS rfl (by decide)) rfl (by decide +kernel) ?_
  refine am_s_lenq (x := 3) dc0_4.2.1.1 (kS rfl (by decide)) rfl rfl (by decide +kernel) ?_
  refine am_s_ic_ge dc0_4.2.1.2 rfl (fun z => absurd z (by decide)) (fun _ => ?_)
  refine am_s_aload_n rfl dc0_4.2.2.1 ?_
  refine am_s_getR (r := 113) dc0_4.2.2.2 rfl (kS rfl (by decide)) rfl (by decide +kernel) ?_
  refine am_s_iload_n rfl dc0_5.1.1.1 ?_
  refine kb_new (k2 := 8) (n2 := 1062) (m := 5) dc0_5.1.1.2 rfl rfl (by decide +kernel) kZ1 (by decide +kernel) (by decide +kernel) rfl rfl rfl ?_
  refine am_s_dup rfl dc0_5.1.2.1 ?_
  refine am_s_init dc0_5.1.2.2 rfl rfl rfl rfl (kc108_60 (by omega) (kb_back (k2 := 12) (n2 := 1411) (by decide +kernel) rfl rfl ?_))
  refine kb_aastore (m := 0) dc0_5.2.1.1 (kS rfl (by decide)) rfl (kS rfl (by decide)) (by decide) (by decide) (by decide +kernel) ?_
  refine kb_iinc (ls' := [some (.ref 112), some (.int 1)]) (c := 1) (x2 := 1) (by decide) (by decide) rfl rfl dc0_5.2.1.2 ?_
  refine am_s_goto rfl dc0_5.2.2.1 ?_
  refine am_s_iload_n rfl dc0_4.1.1.2 ?_
  refine am_s_aload_n rfl dc0_4.1.2.1 ?_
  refine am_s_getR (r := 113) dc0_4.1.2.2 rfl (kS rfl (by decide)) rfl (by decide +kernel) ?_
  refine am_s_lenq (x := 3) dc0_4.2.1.1 (kS rfl (by decide)) rfl rfl (by decide +kernel) ?_
  refine am_s_ic_ge dc0_4.2.1.2 rfl (fun z => absurd z (by decide)) (fun _ => ?_)
  refine am_s_aload_n rfl dc0_4.2.2.1 ?_
  refine am_s_getR (r := 113) dc0_4.2.2.2 rfl (kS rfl (by decide)) rfl (by decide +kernel) ?_
  refine am_s_iload_n rfl dc0_5.1.1.1 ?_
  refine kb_new (k2 := 13) (n2 := 1416) (m := 5) dc0_5.1.1.2 rfl rfl (by decide +kernel) kZ1 (by decide +kernel) (by decide +kernel) rfl rfl rfl ?_
  refine am_s_dup rfl dc0_5.1.2.1 ?_
  refine am_s_init dc0_5.1.2.2 rfl rfl rfl rfl (kc108_61 (by omega) (kb_back (k2 := 17) (n2 := 1765) (by decide +kernel) rfl rfl ?_))
  refine kb_aastore (m := 1) dc0_5.2.1.1 (kS rfl (by decide)) rfl (kS rfl (by decide)) (by decide) (by decide) (by decide +kernel) ?_
  refine kb_iinc (ls' := [some (.ref 112), some (.int 2)]) (c := 1) (x2 := 2) (by decide) (by decide) rfl rfl dc0_5.2.1.2 ?_
  refine am_s_goto rfl dc0_5.2.2.1 ?_
  refine am_s_iload_n rfl dc0_4.1.1.2 ?_
  refine am_s_aload_n rfl dc0_4.1.2.1 ?_
  refine am_s_getR (r := 113) dc0_4.1.2.2 rfl (kS rfl (by decide)) rfl (by decide +kernel) ?_
  refine am_s_lenq (x := 3) dc0_4.2.1.1 (kS rfl (by decide)) rfl rfl (by decide +kernel) ?_
  refine am_s_ic_ge dc0_4.2.1.2 rfl (fun z => absurd z (by decide)) (fun _ => ?_)
  refine am_s_aload_n rfl dc0_4.2.2.1 ?_
  refine am_s_getR (r := 113) dc0_4.2.2.2 rfl (kS rfl (by decide)) rfl (by decide +kernel) ?_
  refine am_s_iload_n rfl dc0_5.1.1.1 ?_
  refine kb_new (k2 := 18) (n2 := 1770) (m := 5) dc0_5.1.1.2 rfl rfl (by decide +kernel) kZ1 (by decide +kernel) (by decide +kernel) rfl rfl rfl ?_
  refine am_s_dup rfl dc0_5.1.2.1 ?_
  refine am_s_init dc0_5.1.2.2 rfl rfl rfl rfl (kc108_62 (by omega) (kb_back (k2 := 22) (n2 := 2119) (by decide +kernel) rfl rfl ?_))
  refine kb_aastore (m := 2) dc0_5.2.1.1 (kS rfl (by decide)) rfl (kS rfl (by decide)) (by decide) (by decide) (by decide +kernel) ?_
  refine kb_iinc (ls' := [some (.ref 112), some (.int 3)]) (c := 1) (x2 := 3) (by decide) (by decide) rfl rfl dc0_5.2.1.2 ?_
  refine am_s_goto rfl dc0_5.2.2.1 ?_
  refine am_s_iload_n rfl dc0_4.1.1.2 ?_
  refine am_s_aload_n rfl dc0_4.1.2.1 ?_
  refine am_s_getR (r := 113) dc0_4.1.2.2 rfl (kS rfl (by decide)) rfl (by decide +kernel) ?_
  refine am_s_lenq (x := 3) dc0_4.2.1.1 (kS rfl (by decide)) rfl rfl (by decide +kernel) ?_
  refine am_s_ic_ge dc0_4.2.1.2 rfl (fun _ => ?_) (fun z => absurd (by decide) z)
  exact am_s_return dc0_5.2.2.2 rfl kk
theorem kc108_63 {D : Nat} {P : am_O → Prop} (hD : 1 ≤ D) (kk : P (.inl none, (am_SH.take 140, kI kB1 (kV1.take 11), kJ, kR 138), 4, 349)) : am_mth D 108 [.ref 135] (am_SH.take 136, kI kB1 (kV1.take 11), kJ, kR 134) P := by
  obtain ⟨d, rfl⟩ : ∃ d, D = d + 1 := ⟨D - 1, by omega⟩
  refine am_mth_of rfl rfl ?_
  show am_go none d 108 (0, [some (.ref 135)], [], (am_SH.take 136, kI kB1 (kV1.take 11), kJ, kR 134), 0, 0) P
  refine am_s_aload_n rfl dc108_0.1.1.1 ?_
  refine am_s_objinit dc108_0.1.1.2 rfl rfl ?_
  refine am_s_aload_n rfl dc108_0.1.2.1 ?_
  refine am_s_bipush (x := 24) (by decide) dc108_0.1.2.2 ?_
  refine kb_newarray (k2 := 1) (n2 := 24) (L := 24) dc108_0.2.1.1 rfl rfl (by decide +kernel) kZ1 (by decide +kernel) (by decide +kernel) (by decide) rfl rfl ?_
  refine kb_putR dc108_0.2.1.2 rfl (kS rfl (by decide)) rfl rfl (by decide +kernel) (by decide +kernel) ?_
  refine am_s_aload_n rfl dc108_0.2.2.1 ?_
  refine am_s_bipush (x := 25) (by decide) dc108_0.2.2.2 ?_
  refine kb_newarray (k2 := 2) (n2 := 49) (L := 25) dc108_1.1.1.1 rfl rfl (by decide +kernel) kZ1 (by decide +kernel) (by decide +kernel) (by decide) rfl rfl ?_
  refine kb_putR dc108_1.1.1.2 rfl (kS rfl (by decide)) rfl rfl (by decide +kernel) (by decide +kernel) ?_
  refine am_s_aload_n rfl dc108_1.1.2.1 ?_
  refine am_s_sipush (x := 200) (by decide) dc108_1.1.2.2 ?_
  refine kb_newarray (k2 := 3) (n2 := 249) (L := 200) dc108_1.2.1.1 rfl rfl (by decide +kernel) kZ1 (by decide +kernel) (by decide +kernel) (by decide) rfl rfl ?_
  refine kb_putR dc108_1.2.1.2 rfl (kS rfl (by decide)) rfl rfl (by decide +kernel) (by decide +kernel) ?_
  refine am_s_aload_n rfl dc108_1.2.2.1 ?_
  refine am_s_bipush (x := 100) (by decide) dc108_1.2.2.2 ?_
  refine kb_newarray (k2 := 4) (n2 := 349) (L := 100) dc108_2.1 rfl rfl (by decide +kernel) kZ1 (by decide +kernel) (by decide +kernel) (by decide) rfl rfl ?_
  refine kb_putR dc108_2.2.1 rfl (kS rfl (by decide)) rfl rfl (by decide +kernel) (by decide +kernel) ?_
  exact am_s_return dc108_2.2.2 rfl kk
theorem kc108_64 {D : Nat} {P : am_O → Prop} (hD : 1 ≤ D) (kk : P (.inl none, (am_SH.take 145, kI kB1 (kV1.take 11), kJ, kR 143), 4, 349)) : am_mth D 108 [.ref 140] (am_SH.take 141, kI kB1 (kV1.take 11), kJ, kR 139) P := by
  obtain ⟨d, rfl⟩ : ∃ d, D = d + 1 := ⟨D - 1, by omega⟩
  refine am_mth_of rfl rfl ?_
  show am_go none d 108 (0, [some (.ref 140)], [], (am_SH.take 141, kI kB1 (kV1.take 11), kJ, kR 139), 0, 0) P
  refine am_s_aload_n rfl dc108_0.1.1.1 ?_
  refine am_s_objinit dc108_0.1.1.2 rfl rfl ?_
  refine am_s_aload_n rfl dc108_0.1.2.1 ?_
  refine am_s_bipush (x := 24) (by decide) dc108_0.1.2.2 ?_
  refine kb_newarray (k2 := 1) (n2 := 24) (L := 24) dc108_0.2.1.1 rfl rfl (by decide +kernel) kZ1 (by decide +kernel) (by decide +kernel) (by decide) rfl rfl ?_
  refine kb_putR dc108_0.2.1.2 rfl (kS rfl (by decide)) rfl rfl (by decide +kernel) (by decide +kernel) ?_
  refine am_s_aload_n rfl dc108_0.2.2.1 ?_
  refine am_s_bipush (x := 25) (by decide) dc108_0.2.2.2 ?_
  refine kb_newarray (k2 := 2) (n2 := 49) (L := 25) dc108_1.1.1.1 rfl rfl (by decide +kernel) kZ1 (by decide +kernel) (by decide +kernel) (by decide) rfl rfl ?_
  refine kb_putR dc108_1.1.1.2 rfl (kS rfl (by decide)) rfl rfl (by decide +kernel) (by decide +kernel) ?_
  refine am_s_aload_n rfl dc108_1.1.2.1 ?_
  refine am_s_sipush (x := 200) (by decide) dc108_1.1.2.2 ?_
  refine kb_newarray (k2 := 3) (n2 := 249) (L := 200) dc108_1.2.1.1 rfl rfl (by decide +kernel) kZ1 (by decide +kernel) (by decide +kernel) (by decide) rfl rfl ?_
  refine kb_putR dc108_1.2.1.2 rfl (kS rfl (by decide)) rfl rfl (by decide +kernel) (by decide +kernel) ?_
  refine am_s_aload_n rfl dc108_1.2.2.1 ?_
  refine am_s_bipush (x := 100) (by decide) dc108_1.2.2.2 ?_
  refine kb_newarray (k2 := 4) (n2 := 349) (L := 100) dc108_2.1 rfl rfl (by decide +kernel) kZ1 (by decide +kernel) (by decide +kernel) (by decide) rfl rfl ?_
  refine kb_putR dc108_2.2.1 rfl (kS rfl (by decide)) rfl rfl (by decide +kernel) (by decide +kernel) ?_
  exact am_s_return dc108_2.2.2 rfl kk
theorem kc122_65 {D : Nat} {P : am_O → Prop} (hD : 1 ≤ D) (kk : P (.inl none, (am_SH.take 154, kI kB1 (kV1.take 12), kJ, kR 154), 8, 9058)) : am_mth D 122 [.ref 145, .ref 112, .ref 135] (am_SH.take 146, kI kB1 (kV1.take 11), kJ, kR 144) P := by
  obtain ⟨d, rfl⟩ : ∃ d, D = d + 1 := ⟨D - 1, by omega⟩
  refine am_mth_of rfl rfl ?_
  show am_go none d 122 (0, [some (.ref 145), some (.ref 112), some (.ref 135)], [], (am_SH.take 146, kI kB1 (kV1.take 11), kJ, kR 144), 0, 0) P
  refine am_s_aload_n rfl dc122_0.1.1.1 ?_
  refine am_s_objinit dc122_0.1.1.2 rfl rfl ?_
  refine am_s_aload_n rfl dc122_0.1.2.1 ?_
  refine am_s_sipush (x := 5000) (by decide) dc122_0.1.2.2 ?_
  refine kb_newarray (k2 := 1) (n2 := 5000) (L := 5000) dc122_0.2.1.1 rfl rfl (by decide +kernel) kZ1 (by decide +kernel) (by decide +kernel) (by decide) rfl rfl ?_
  refine kb_putR dc122_0.2.1.2 rfl (kS rfl (by decide)) rfl rfl (by decide +kernel) (by decide +kernel) ?_
  refine am_s_aload_n rfl dc122_0.2.2.1 ?_
  refine am_s_sipush (x := 200) (by decide) dc122_0.2.2.2 ?_
  refine kb_newarray (k2 := 2) (n2 := 5200) (L := 200) dc122_1.1.1.1 rfl rfl (by decide +kernel) kZ1 (by decide +kernel) (by decide +kernel) (by decide) rfl rfl ?_
  refine kb_putR dc122_1.1.1.2 rfl (kS rfl (by decide)) rfl rfl (by decide +kernel) (by decide +kernel) ?_
  refine am_s_aload_n rfl dc122_1.1.2.1 ?_
  refine am_s_sipush (x := 200) (by decide) dc122_1.1.2.2 ?_
  refine kb_newarray (k2 := 3) (n2 := 5400) (L := 200) dc122_1.2.1.1 rfl rfl (by decide +kernel) kZ1 (by decide +kernel) (by decide +kernel) (by decide) rfl rfl ?_
  refine kb_putR dc122_1.2.1.2 rfl (kS rfl (by decide)) rfl rfl (by decide +kernel) (by decide +kernel) ?_
  refine am_s_aload_n rfl dc122_1.2.2.1 ?_
  refine am_s_sipush (x := 1200) (by decide) dc122_1.2.2.2 ?_
  refine kb_newarray (k2 := 4) (n2 := 6600) (L := 1200) dc122_2.1.1.1 rfl rfl (by decide +kernel) kZ1 (by decide +kernel) (by decide +kernel) (by decide) rfl rfl ?_
  refine kb_putR dc122_2.1.1.2 rfl (kS rfl (by decide)) rfl rfl (by decide +kernel) (by decide +kernel) ?_
  refine am_s_aload_n rfl dc122_2.1.2.1 ?_
  refine am_s_sipush (x := 2404) (by decide) dc122_2.1.2.2 ?_
  refine kb_newarray (k2 := 5) (n2 := 9004) (L := 2404) dc122_2.2.1.1 rfl rfl (by decide +kernel) kZ1 (by decide +kernel) (by decide +kernel) (by decide) rfl rfl ?_
  refine kb_putR dc122_2.2.1.2 rfl (kS rfl (by decide)) rfl rfl (by decide +kernel) (by decide +kernel) ?_
  refine am_s_aload_n rfl dc122_2.2.2.1 ?_
  refine am_s_iconst (x := 4) (by decide) dc122_2.2.2.2 ?_
  refine kb_newarray (k2 := 6) (n2 := 9008) (L := 4) dc122_3.1.1.1 rfl rfl (by decide +kernel) kZ1 (by decide +kernel) (by decide +kernel) (by decide) rfl rfl ?_
  refine kb_putR dc122_3.1.1.2 rfl (kS rfl (by decide)) rfl rfl (by decide +kernel) (by decide +kernel) ?_
  refine am_s_aload_n rfl dc122_3.1.2.1 ?_
  refine am_s_bipush (x := 25) (by decide) dc122_3.1.2.2 ?_
  refine kb_newarray (k2 := 7) (n2 := 9033) (L := 25) dc122_3.2.1.1 rfl rfl (by decide +kernel) kZ1 (by decide +kernel) (by decide +kernel) (by decide) rfl rfl ?_
  refine kb_putR dc122_3.2.1.2 rfl (kS rfl (by decide)) rfl rfl (by decide +kernel) (by decide +kernel) ?_
  refine am_s_aload_n rfl dc122_3.2.2.1 ?_
  refine am_s_bipush (x := 25) (by decide) dc122_3.2.2.2 ?_
  refine kb_newarray (k2 := 8) (n2 := 9058) (L := 25) dc122_4.1.1.1 rfl rfl (by decide +kernel) kZ1 (by decide +kernel) (by decide +kernel) (by decide) rfl rfl ?_
  refine kb_putR dc122_4.1.1.2 rfl (kS rfl (by decide)) rfl rfl (by decide +kernel) (by decide +kernel) ?_
  refine am_s_aload_n rfl dc122_4.1.2.1 ?_
  refine am_s_aload_n rfl dc122_4.1.2.2 ?_
  refine kb_putR dc122_4.2.1.1 rfl (kS rfl (by decide)) rfl rfl (by decide +kernel) (by decide +kernel) ?_
  refine am_s_aload_n rfl dc122_4.2.1.2 ?_
  refine am_s_aload_n rfl dc122_4.2.2.1 ?_
  refine kb_putR dc122_4.2.2.2 rfl (kS rfl (by decide)) rfl rfl (by decide +kernel) (by decide +kernel) ?_
  refine am_s_aload_n rfl dc122_5.1.1 ?_
  refine am_s_iconst (x := (-1)) (by decide) dc122_5.1.2 ?_
  refine kb_putI dc122_5.2.1 rfl (kS rfl (by decide)) rfl rfl (by decide +kernel) ?_
  exact am_s_return dc122_5.2.2 rfl kk
theorem kc70_66 {D : Nat} {P : am_O → Prop} (hD : 1 ≤ D) (kk : P (.inl none, (am_SH.take 157, kI kB1 (kV1.take 13), kJ, kR 157), 2, 425)) : am_mth D 70 [.ref 154] (am_SH.take 155, kI kB1 (kV1.take 13), kJ, kR 155) P := by
  obtain ⟨d, rfl⟩ : ∃ d, D = d + 1 := ⟨D - 1, by omega⟩
  refine am_mth_of rfl rfl ?_
  show am_go none d 70 (0, [some (.ref 154)], [], (am_SH.take 155, kI kB1 (kV1.take 13), kJ, kR 155), 0, 0) P
  refine am_s_aload_n rfl dc70_0.1.1.1 ?_
  refine am_s_objinit dc70_0.1.1.2 rfl rfl ?_
  refine am_s_aload_n rfl dc70_0.1.2.1 ?_
  refine am_s_sipush (x := 408) (by decide) dc70_0.1.2.2 ?_
  refine kb_newarray (k2 := 1) (n2 := 408) (L := 408) dc70_0.2.1.1 rfl rfl (by decide +kernel) kZ1 (by decide +kernel) (by decide +kernel) (by decide) rfl rfl ?_
  refine kb_putR dc70_0.2.1.2 rfl (kS rfl (by decide)) rfl rfl (by decide +kernel) (by decide +kernel) ?_
  refine am_s_aload_n rfl dc70_0.2.2.1 ?_
  refine am_s_bipush (x := 17) (by decide) dc70_0.2.2.2 ?_
  refine kb_newarray (k2 := 2) (n2 := 425) (L := 17) dc70_1.1 rfl rfl (by decide +kernel) kZ1 (by decide +kernel) (by decide +kernel) (by decide) rfl rfl ?_
  refine kb_putR dc70_1.2.1 rfl (kS rfl (by decide)) rfl rfl (by decide +kernel) (by decide +kernel) ?_
  exact am_s_return dc70_1.2.2 rfl kk
theorem kc70_67 {D : Nat} {P : am_O → Prop} (hD : 1 ≤ D) (kk : P (.inl none, (am_SH.take 160, kI kB1 (kV1.take 13), kJ, kR 160), 2, 425)) : am_mth D 70 [.ref 157] (am_SH.take 158, kI kB1 (kV1.take 13), kJ, kR 158) P := by
  obtain ⟨d, rfl⟩ : ∃ d, D = d + 1 := ⟨D - 1, by omega⟩
  refine am_mth_of rfl rfl ?_
  show am_go none d 70 (0, [some (.ref 157)], [], (am_SH.take 158, kI kB1 (kV1.take 13), kJ, kR 158), 0, 0) P
  refine am_s_aload_n rfl dc70_0.1.1.1 ?_
  refine am_s_objinit dc70_0.1.1.2 rfl rfl ?_
  refine am_s_aload_n rfl dc70_0.1.2.1 ?_
  refine am_s_sipush (x := 408) (by decide) dc70_0.1.2.2 ?_
  refine kb_newarray (k2 := 1) (n2 := 408) (L := 408) dc70_0.2.1.1 rfl rfl (by decide +kernel) kZ1 (by decide +kernel) (by decide +kernel) (by decide) rfl rfl ?_
  refine kb_putR dc70_0.2.1.2 rfl (kS rfl (by decide)) rfl rfl (by decide +kernel) (by decide +kernel) ?_
  refine am_s_aload_n rfl dc70_0.2.2.1 ?_
  refine am_s_bipush (x := 17) (by decide) dc70_0.2.2.2 ?_
  refine kb_newarray (k2 := 2) (n2 := 425) (L := 17) dc70_1.1 rfl rfl (by decide +kernel) kZ1 (by decide +kernel) (by decide +kernel) (by decide) rfl rfl ?_
  refine kb_putR dc70_1.2.1 rfl (kS rfl (by decide)) rfl rfl (by decide +kernel) (by decide +kernel) ?_
  exact am_s_return dc70_1.2.2 rfl kk
theorem kc70_68 {D : Nat} {P : am_O → Prop} (hD : 1 ≤ D) (kk : P (.inl none, (am_SH.take 163, kI kB1 (kV1.take 13), kJ, kR 163), 2, 425)) : am_mth D 70 [.ref 160] (am_SH.take 161, kI kB1 (kV1.take 13), kJ, kR 161) P := by
  obtain ⟨d, rfl⟩ : ∃ d, D = d + 1 := ⟨D - 1, by omega⟩
  refine am_mth_of rfl rfl ?_
  show am_go none d 70 (0, [some (.ref 160)], [], (am_SH.take 161, kI kB1 (kV1.take 13), kJ, kR 161), 0, 0) P
  refine am_s_aload_n rfl dc70_0.1.1.1 ?_
  refine am_s_objinit dc70_0.1.1.2 rfl rfl ?_
  refine am_s_aload_n rfl dc70_0.1.2.1 ?_
  refine am_s_sipush (x := 408) (by decide) dc70_0.1.2.2 ?_
  refine kb_newarray (k2 := 1) (n2 := 408) (L := 408) dc70_0.2.1.1 rfl rfl (by decide +kernel) kZ1 (by decide +kernel) (by decide +kernel) (by decide) rfl rfl ?_
  refine kb_putR dc70_0.2.1.2 rfl (kS rfl (by decide)) rfl rfl (by decide +kernel) (by decide +kernel) ?_
  refine am_s_aload_n rfl dc70_0.2.2.1 ?_
  refine am_s_bipush (x := 17) (by decide) dc70_0.2.2.2 ?_
  refine kb_newarray (k2 := 2) (n2 := 425) (L := 17) dc70_1.1 rfl rfl (by decide +kernel) kZ1 (by decide +kernel) (by decide +kernel) (by decide) rfl rfl ?_
  refine kb_putR dc70_1.2.1 rfl (kS rfl (by decide)) rfl rfl (by decide +kernel) (by decide +kernel) ?_
  exact am_s_return dc70_1.2.2 rfl kk
theorem kc1_69 {D : Nat} {P : am_O → Prop} (hD : 2 ≤ D) (kk : P (.inl none, (am_SH.take 163, kI kB2 (kV2.take 1), kJ, kR 166), 0, 0)) : am_mth D 1 [.ref 112, .ref 16] (am_SH.take 163, kI kB1 (kV1.take 13), kJ, kR 164) P := by
  obtain ⟨d, rfl⟩ : ∃ d, D = d + 1 := ⟨D - 1, by omega⟩
  refine am_mth_of rfl rfl ?_
  show am_go none d 1 (0, [some (.ref 112), some (.ref 16)], [], (am_SH.take 163, kI kB1 (kV1.take 13), kJ, kR 164), 0, 0) P
  refine am_s_aload_n rfl dc1_0.1.1.1 ?_
  refine am_s_aload_n rfl dc1_0.1.1.2 ?_
  refine kb_putR dc1_0.1.2.1 rfl (kS rfl (by decide)) rfl rfl (by decide +kernel) (by decide +kernel) ?_
  refine am_s_aload_n rfl dc1_0.1.2.2 ?_
  refine am_s_aload_n rfl dc1_0.2.1.1 ?_
  refine am_s_getR (r := 31) dc1_0.2.1.2 rfl (kS rfl (by decide)) rfl (by decide +kernel) ?_
  refine kb_putR dc1_0.2.2.1 rfl (kS rfl (by decide)) rfl rfl (by decide +kernel) (by decide +kernel) ?_
  refine am_s_aload_n rfl dc1_0.2.2.2 ?_
  refine am_s_getR (r := 119) dc1_1.1.1 rfl (kS rfl (by decide)) rfl (by decide +kernel) ?_
  refine am_s_iconst (x := (-1)) (by decide) dc1_1.1.2.1 ?_
  refine am_s_static dc1_1.1.2.2 rfl rfl rfl (kfill (by omega) (kb_back (k2 := 0) (n2 := 0) (by decide +kernel) rfl rfl ?_))
  show am_go none d 1 (21, [some (.ref 112), some (.ref 16)], [], (am_SH.take 163, kI kB2 (kV2.take 0), kJ, kR 166), 0, 0) P
  refine am_s_aload_n rfl dc1_1.2.1.1 ?_
  refine am_s_iconst (x := 0) (by decide) dc1_1.2.1.2 ?_
  refine kb_putI dc1_1.2.2.1 rfl (kS rfl (by decide)) rfl rfl (by decide +kernel) ?_
  exact am_s_return dc1_1.2.2.2 rfl kk
theorem kc139_1 {D : Nat} {P : am_O → Prop} (hD : 4 ≤ D) (kk : P (.inl none, (am_SH.take 163, kI kB2 (kV2.take 1), kJ, kR 166), 162, 19170)) : am_mth D 139 [.ref 0] (am_SH.take 1, kI kB1 (kV1.take 0), kJ, kR 0) P := by
  obtain ⟨d, rfl⟩ : ∃ d, D = d + 1 := ⟨D - 1, by omega⟩
  refine am_mth_of rfl rfl ?_
  show am_go none d 139 (0, [some (.ref 0), none], [], (am_SH.take 1, kI kB1 (kV1.take 0), kJ, kR 0), 0, 0) P
  refine am_s_aload_n rfl dc139_0.1.1.1 ?_
  refine am_s_objinit dc139_0.1.1.2 rfl rfl ?_
  refine am_s_aload_n rfl dc139_0.1.2.1 ?_
  refine kb_new (k2 := 1) (n2 := 10) (m := 10) dc139_0.1.2.2 rfl rfl (by decide +kernel) kZ1 (by decide +kernel) (by decide +kernel) rfl rfl rfl ?_
  refine am_s_dup rfl dc139_0.2.1.1 ?_
  refine am_s_init dc139_0.2.1.2 rfl rfl rfl rfl (kc50_2 (by omega) (kb_back (k2 := 2) (n2 := 610) (by decide +kernel) rfl rfl ?_))
  refine kb_putR dc139_0.2.2.1 rfl (kS rfl (by decide)) rfl rfl (by decide +kernel) (by decide +kernel) ?_
  refine am_s_aload_n rfl dc139_0.2.2.2 ?_
  refine kb_new (k2 := 3) (n2 := 617) (m := 7) dc139_1.1.1.1 rfl rfl (by decide +kernel) kZ1 (by decide +kernel) (by decide +kernel) rfl rfl rfl ?_
  refine am_s_dup rfl dc139_1.1.1.2 ?_
  refine am_s_init dc139_1.1.2.1 rfl rfl rfl rfl (kc20_3 (by omega) (kb_back (k2 := 15) (n2 := 665) (by decide +kernel) rfl rfl ?_))
  refine kb_putR dc139_1.1.2.2 rfl (kS rfl (by decide)) rfl rfl (by decide +kernel) (by decide +kernel) ?_
  refine am_s_aload_n rfl dc139_1.2.1.1 ?_
  refine kb_new (k2 := 16) (n2 := 686) (m := 21) dc139_1.2.1.2 rfl rfl (by decide +kernel) kZ1 (by decide +kernel) (by decide +kernel) rfl rfl rfl ?_
  refine am_s_dup rfl dc139_1.2.2.1 ?_
  refine am_s_init dc139_1.2.2.2 rfl rfl rfl rfl (kc66_12 (by omega) (kb_back (k2 := 54) (n2 := 1816) (by decide +kernel) rfl rfl ?_))
  refine kb_putR dc139_2.1.1.1 rfl (kS rfl (by decide)) rfl rfl (by decide +kernel) (by decide +kernel) ?_
  refine am_s_aload_n rfl dc139_2.1.1.2 ?_
  refine kb_new (k2 := 55) (n2 := 1837) (m := 21) dc139_2.1.2.1 rfl rfl (by decide +kernel) kZ1 (by decide +kernel) (by decide +kernel) rfl rfl rfl ?_
  refine am_s_dup rfl dc139_2.1.2.2 ?_
  refine am_s_init dc139_2.2.1.1 rfl rfl rfl rfl (kc66_31 (by omega) (kb_back (k2 := 93) (n2 := 2967) (by decide +kernel) rfl rfl ?_))
  refine kb_putR dc139_2.2.1.2 rfl (kS rfl (by decide)) rfl rfl (by decide +kernel) (by decide +kernel) ?_
  refine am_s_aload_n rfl dc139_2.2.2.1 ?_
  refine kb_new (k2 := 94) (n2 := 2972) (m := 5) dc139_2.2.2.2 rfl rfl (by decide +kernel) kZ1 (by decide +kernel) (by decide +kernel) rfl rfl rfl ?_
  refine am_s_dup rfl dc139_3.1.1.1 ?_
  refine am_s_init dc139_3.1.1.2 rfl rfl rfl rfl (kc39_50 (by omega) (kb_back (k2 := 97) (n2 := 3422) (by decide +kernel) rfl rfl ?_))
  refine kb_putR dc139_3.1.2.1 rfl (kS rfl (by decide)) rfl rfl (by decide +kernel) (by decide +kernel) ?_
  refine am_s_aload_n rfl dc139_3.1.2.2 ?_
  refine kb_new (k2 := 98) (n2 := 3427) (m := 5) dc139_3.2.1.1 rfl rfl (by decide +kernel) kZ1 (by decide +kernel) (by decide +kernel) rfl rfl rfl ?_
  refine am_s_dup rfl dc139_3.2.1.2 ?_
  refine am_s_init dc139_3.2.2.1 rfl rfl rfl rfl (kc39_53 (by omega) (kb_back (k2 := 101) (n2 := 3877) (by decide +kernel) rfl rfl ?_))
  refine kb_putR dc139_3.2.2.2 rfl (kS rfl (by decide)) rfl rfl (by decide +kernel) (by decide +kernel) ?_
  refine am_s_aload_n rfl dc139_4.1.1.1 ?_
  refine kb_new (k2 := 102) (n2 := 3887) (m := 10) dc139_4.1.1.2 rfl rfl (by decide +kernel) kZ1 (by decide +kernel) (by decide +kernel) rfl rfl rfl ?_
  refine am_s_dup rfl dc139_4.1.2.1 ?_
  refine am_s_init dc139_4.1.2.2 rfl rfl rfl rfl (kc99_56 (by omega) (kb_back (k2 := 107) (n2 := 5544) (by decide +kernel) rfl rfl ?_))
  refine kb_putR dc139_4.2.1.1 rfl (kS rfl (by decide)) rfl rfl (by decide +kernel) (by decide +kernel) ?_
  refine am_s_aload_n rfl dc139_4.2.1.2 ?_
  refine kb_new (k2 := 108) (n2 := 5547) (m := 3) dc139_4.2.2.1 rfl rfl (by decide +kernel) kZ1 (by decide +kernel) (by decide +kernel) rfl rfl rfl ?_
  refine am_s_dup rfl dc139_4.2.2.2 ?_
  refine am_s_init dc139_5.1.1.1 rfl rfl rfl rfl (kc70_57 (by omega) (kb_back (k2 := 110) (n2 := 5972) (by decide +kernel) rfl rfl ?_))
  refine kb_putR dc139_5.1.1.2 rfl (kS rfl (by decide)) rfl rfl (by decide +kernel) (by decide +kernel) ?_
  refine am_s_aload_n rfl dc139_5.1.2.1 ?_
  refine am_s_iconst (x := 3) (by decide) dc139_5.1.2.2 ?_
  refine kb_anewarray (k2 := 111) (n2 := 5975) (L := 3) dc139_5.2.1.1 rfl rfl rfl (by decide +kernel) kZ1 (by decide +kernel) (by decide +kernel) (by decide) rfl rfl ?_
  refine kb_putR dc139_5.2.1.2 rfl (kS rfl (by decide)) rfl rfl (by decide +kernel) (by decide +kernel) ?_
  refine am_s_aload_n rfl dc139_5.2.2.1 ?_
  refine kb_new (k2 := 112) (n2 := 5985) (m := 10) dc139_5.2.2.2 rfl rfl (by decide +kernel) kZ1 (by decide +kernel) (by decide +kernel) rfl rfl rfl ?_
  refine am_s_dup rfl dc139_6.1.1.1 ?_
  refine am_s_init dc139_6.1.1.2 rfl rfl rfl rfl (kc0_58 (by omega) (kb_back (k2 := 134) (n2 := 8104) (by decide +kernel) rfl rfl ?_))
  refine kb_putR dc139_6.1.2.1 rfl (kS rfl (by decide)) rfl rfl (by decide +kernel) (by decide +kernel) ?_
  refine am_s_aload_n rfl dc139_6.1.2.2 ?_
  refine kb_new (k2 := 135) (n2 := 8109) (m := 5) dc139_6.2.1.1 rfl rfl (by decide +kernel) kZ1 (by decide +kernel) (by decide +kernel) rfl rfl rfl ?_
  refine am_s_dup rfl dc139_6.2.1.2 ?_
  refine am_s_init dc139_6.2.2.1 rfl rfl rfl rfl (kc108_63 (by omega) (kb_back (k2 := 139) (n2 := 8458) (by decide +kernel) rfl rfl ?_))
  refine kb_putR dc139_6.2.2.2 rfl (kS rfl (by decide)) rfl rfl (by decide +kernel) (by decide +kernel) ?_
  refine am_s_aload_n rfl dc139_7.1.1.1 ?_
  refine kb_new (k2 := 140) (n2 := 8463) (m := 5) dc139_7.1.1.2 rfl rfl (by decide +kernel) kZ1 (by decide +kernel) (by decide +kernel) rfl rfl rfl ?_
  refine am_s_dup rfl dc139_7.1.2.1 ?_
  refine am_s_init dc139_7.1.2.2 rfl rfl rfl rfl (kc108_64 (by omega) (kb_back (k2 := 144) (n2 := 8812) (by decide +kernel) rfl rfl ?_))
  refine kb_putR dc139_7.2.1.1 rfl (kS rfl (by decide)) rfl rfl (by decide +kernel) (by decide +kernel) ?_
  refine am_s_aload_n rfl dc139_7.2.1.2 ?_
  refine kb_new (k2 := 145) (n2 := 8828) (m := 16) dc139_7.2.2.1 rfl rfl (by decide +kernel) kZ1 (by decide +kernel) (by decide +kernel) rfl rfl rfl ?_
  refine am_s_dup rfl dc139_7.2.2.2 ?_
  refine am_s_aload_n rfl dc139_8.1.1.1 ?_
  refine am_s_getR (r := 112) dc139_8.1.1.2 rfl (kS rfl (by decide)) rfl (by decide +kernel) ?_
  refine am_s_aload_n rfl dc139_8.1.2.1 ?_
  refine am_s_getR (r := 135) dc139_8.1.2.2 rfl (kS rfl (by decide)) rfl (by decide +kernel) ?_
  refine am_s_init dc139_8.2.1.1 rfl rfl rfl rfl (kc122_65 (by omega) (kb_back (k2 := 153) (n2 := 17886) (by decide +kernel) rfl rfl ?_))
  refine kb_putR dc139_8.2.1.2 rfl (kS rfl (by decide)) rfl rfl (by decide +kernel) (by decide +kernel) ?_
  refine am_s_aload_n rfl dc139_8.2.2.1 ?_
  refine am_s_iconst (x := (-1)) (by decide) dc139_8.2.2.2 ?_
  refine kb_putI dc139_9.1.1.1 rfl (kS rfl (by decide)) rfl rfl (by decide +kernel) ?_
  refine am_s_iconst (x := 0) (by decide) dc139_9.1.1.2 ?_
  refine am_s_istore_n (ls' := [some (.ref 0), some (.int 0)]) rfl rfl dc139_9.1.2.1 ?_
  refine am_s_iload_n rfl dc139_9.1.2.2 ?_
  refine am_s_iconst (x := 3) (by decide) dc139_9.2.1.1 ?_
  refine am_s_ic_ge dc139_9.2.1.2 rfl (fun z => absurd z (by decide)) (fun _ => ?_)
  refine am_s_aload_n rfl dc139_9.2.2.1 ?_
  refine am_s_getR (r := 111) dc139_9.2.2.2 rfl (kS rfl (by decide)) rfl (by decide +kernel) ?_
  refine am_s_iload_n rfl dc139_10.1.1.1 ?_
  refine kb_new (k2 := 154) (n2 := 17889) (m := 3) dc139_10.1.1.2 rfl rfl (by decide +kernel) kZ1 (by decide +kernel) (by decide +kernel) rfl rfl rfl ?_
  refine am_s_dup rfl dc139_10.1.2.1 ?_
  refine am_s_init dc139_10.1.2.2 rfl rfl rfl rfl (kc70_66 (by omega) (kb_back (k2 := 156) (n2 := 18314) (by decide +kernel) rfl rfl ?_))
  refine kb_aastore (m := 0) dc139_10.2.1.1 (kS rfl (by decide)) rfl (kS rfl (by decide)) (by decide) (by decide) (by decide +kernel) ?_
  refine kb_iinc (ls' := [some (.ref 0), some (.int 1)]) (c := 1) (x2 := 1) (by decide) (by decide) rfl rfl dc139_10.2.1.2 ?_
  refine am_s_goto rfl dc139_10.2.2.1 ?_
  refine am_s_iload_n rfl dc139_9.1.2.2 ?_
  refine am_s_iconst (x := 3) (by decide) dc139_9.2.1.1 ?_
  refine am_s_ic_ge dc139_9.2.1.2 rfl (fun z => absurd z (by decide)) (fun _ => ?_)
  refine am_s_aload_n rfl dc139_9.2.2.1 ?_
  refine am_s_getR (r := 111) dc139_9.2.2.2 rfl (kS rfl (by decide)) rfl (by decide +kernel) ?_
  refine am_s_iload_n rfl dc139_10.1.1.1 ?_
  refine kb_new (k2 := 157) (n2 := 18317) (m := 3) dc139_10.1.1.2 rfl rfl (by decide +kernel) kZ1 (by decide +kernel) (by decide +kernel) rfl rfl rfl ?_
  refine am_s_dup rfl dc139_10.1.2.1 ?_
  refine am_s_init dc139_10.1.2.2 rfl rfl rfl rfl (kc70_67 (by omega) (kb_back (k2 := 159) (n2 := 18742) (by decide +kernel) rfl rfl ?_))
  refine kb_aastore (m := 1) dc139_10.2.1.1 (kS rfl (by decide)) rfl (kS rfl (by decide)) (by decide) (by decide) (by decide +kernel) ?_
  refine kb_iinc (ls' := [some (.ref 0), some (.int 2)]) (c := 1) (x2 := 2) (by decide) (by decide) rfl rfl dc139_10.2.1.2 ?_
  refine am_s_goto rfl dc139_10.2.2.1 ?_
  refine am_s_iload_n rfl dc139_9.1.2.2 ?_
  refine am_s_iconst (x := 3) (by decide) dc139_9.2.1.1 ?_
  refine am_s_ic_ge dc139_9.2.1.2 rfl (fun z => absurd z (by decide)) (fun _ => ?_)
  refine am_s_aload_n rfl dc139_9.2.2.1 ?_
  refine am_s_getR (r := 111) dc139_9.2.2.2 rfl (kS rfl (by decide)) rfl (by decide +kernel) ?_
  refine am_s_iload_n rfl dc139_10.1.1.1 ?_
  refine kb_new (k2 := 160) (n2 := 18745) (m := 3) dc139_10.1.1.2 rfl rfl (by decide +kernel) kZ1 (by decide +kernel) (by decide +kernel) rfl rfl rfl ?_
  refine am_s_dup rfl dc139_10.1.2.1 ?_
  refine am_s_init dc139_10.1.2.2 rfl rfl rfl rfl (kc70_68 (by omega) (kb_back (k2 := 162) (n2 := 19170) (by decide +kernel) rfl rfl ?_))
  refine kb_aastore (m := 2) dc139_10.2.1.1 (kS rfl (by decide)) rfl (kS rfl (by decide)) (by decide) (by decide) (by decide +kernel) ?_
  refine kb_iinc (ls' := [some (.ref 0), some (.int 3)]) (c := 1) (x2 := 3) (by decide) (by decide) rfl rfl dc139_10.2.1.2 ?_
  refine am_s_goto rfl dc139_10.2.2.1 ?_
  refine am_s_iload_n rfl dc139_9.1.2.2 ?_
  refine am_s_iconst (x := 3) (by decide) dc139_9.2.1.1 ?_
  refine am_s_ic_ge dc139_9.2.1.2 rfl (fun _ => ?_) (fun z => absurd (by decide) z)
  refine am_s_aload_n rfl dc139_10.2.2.2 ?_
  refine am_s_getR (r := 112) dc139_11.1.1 rfl (kS rfl (by decide)) rfl (by decide +kernel) ?_
  refine am_s_aload_n rfl dc139_11.1.2 ?_
  refine am_s_getR (r := 16) dc139_11.2.1 rfl (kS rfl (by decide)) rfl (by decide +kernel) ?_
  refine am_s_virtual false dc139_11.2.2.1 rfl (by decide) rfl (kS rfl (by decide)) rfl (kc1_69 (by omega) (kb_back (k2 := 162) (n2 := 19170) (by decide +kernel) rfl rfl ?_))
  exact am_s_return dc139_11.2.2.2 rfl kk
