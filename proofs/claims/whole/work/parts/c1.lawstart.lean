/-! The law, from its first byte -/
theorem lw_all {L : Nat} {xs : Nat → Int32} {d : Nat} {P : am_O → Prop} (hd : 402 ≤ d) (hL : L ≤ 3072) (kk : ∀ (w : am_W) (k n : Nat), k ≤ 203 + 513 → n ≤ 66700 + 6 * 513 → P (.inl (some (.int 1)), w, k, n)) : am_go (some (L, xs)) d 370 (0, am_ent 370 [.retAddr 0], [], am_w0, 0, 0) P := by
  show am_go (some (L, xs)) d 370 (0, [some (.retAddr 0), none, none, none, none, none, none], [], (am_SH.take 0, kI kB1 (kV1.take 0), kJ, kR 0), 0, 0) P
  refine kb_new (k2 := 1) (n2 := 20) (m := 20) dc370_0.1.1.1 rfl rfl (by decide +kernel) kZ1 (by decide +kernel) (by decide +kernel) rfl rfl rfl ?_
  refine am_s_dup rfl dc370_0.1.1.2 ?_
  refine am_s_init dc370_0.1.2.1 rfl rfl rfl rfl (kc139_1 (by omega) (kb_back (k2 := 163) (n2 := 19190) (by decide +kernel) rfl rfl ?_))
  refine am_s_astore_n (ls' := [some (.retAddr 0), some (.ref 0), none, none, none, none, none]) rfl rfl dc370_0.1.2.2 ?_
  refine kb_new (k2 := 164) (n2 := 19256) (m := 66) dc370_0.2.1.1 rfl rfl (by decide +kernel) (kZ2 (by decide)) (by decide +kernel) (by decide +kernel) rfl rfl rfl ?_
  refine am_s_dup rfl dc370_0.2.1.2 ?_
  refine am_s_init dc370_0.2.2.1 rfl rfl rfl rfl (kcM (by omega) (fun I2 f1 f2 f3 f4 f5 f6 f7 f8 f9 f10 => kb_back (k2 := 202) (n2 := 66699) (by decide +kernel) rfl rfl ?_))
  refine am_s_astore_n (ls' := [some (.retAddr 0), some (.ref 0), some (.ref 163), none, none, none, none]) rfl rfl dc370_0.2.2.2 ?_
  refine am_s_iconst (x := 1) (by decide) dc370_1.1.1.1 ?_
  refine am_s_newarray (L := 1) dc370_1.1.1.2 rfl (N := 202) (by decide +kernel) (by decide +kernel) (by decide) ?_
  refine am_s_astore_n (ls' := [some (.retAddr 0), some (.ref 0), some (.ref 163), some (.ref 202), none, none, none]) rfl rfl dc370_1.1.2.1 ?_
  refine am_s_iconst (x := 0) (by decide) dc370_1.1.2.2 ?_
  refine am_s_istore (ls' := lwL 0 none none) rfl rfl dc370_1.2.1.1 ?_
  rw [show am_SH.take 202 ++ ([Sum.inr (2, 1)] : List am_K) = am_SH by decide +kernel, kJ_z, kR_z (by decide +kernel), show am_z I2 202 0 = I2 from am_z_row (fun k => (f10 _ _ (by omega) (by omega) (by omega) (by omega)).trans (kI_rowC (by decide) (by decide +kernel) (by decide +kernel) k))]
  exact lw_loop hd hL 513 0 _ _ I2 kJ _ none none (by omega) (by omega) (INV_start f1 f2 f3 f4 f5 f6 f7 f8 f9 f10) (fun w k n h1 h2 => kk w k n (by omega) (by omega))
