/-! What touches locals and stack alone: the machine does what the abstract one does -/
section AMP
variable {p : Program} {l : Launch} {e : Env} {R : Room} {s : State} {m : MethodId} {args : Array Value} {below : List Frame} {meth : Method} {c : Code} {H : Heap} {locs : List Loc} {cells slots : Nat} {Q : State → Prop}
variable {cc : ByteArray} {pc : Nat} {b : Nat → Option Nat} {ad : Nat → Nat} {nL : Nat}
theorem am_jp_ok {f : Prop} [Decidable f] {off : Int} {ls : am_L} {r : List Value} {q : Nat × am_L × List Value} {LS : Array Slot} {st0 : List Value} (h : am_jp (decide f) pc off ls r = some q)
    (row : ∀ {tgt : Nat}, (pc : Int) + off = (tgt : Int) → (f → W p l e R s m args below meth c H locs cells slots Q (F0 m tgt LS (r.map (am_v b ad)))) → (¬ f → W p l e R s m args below meth c H locs cells slots Q (F0 m (pc + 3) LS (r.map (am_v b ad)))) → W p l e R s m args below meth c H locs cells slots Q (F0 m pc LS st0))
    (hl : am_lr (am_v b ad) ls LS nL) (kk : ∀ LS1, am_lr (am_v b ad) q.2.1 LS1 nL → W p l e R s m args below meth c H locs cells slots Q (F0 m q.1 LS1 (q.2.2.map (am_v b ad)))) : W p l e R s m args below meth c H locs cells slots Q (F0 m pc LS st0) := by
  unfold am_jp at h
  cases ht : am_tg pc off with
  | none => rw [ht] at h; cases h
  | some t =>
    rw [ht] at h
    by_cases hf : f
    · rw [decide_eq_true hf] at h
      cases h
      exact row (am_tg_some ht) (fun _ => kk _ hl) (fun n => absurd hf n)
    · rw [decide_eq_false hf] at h
      cases h
      exact row (am_tg_some ht) (fun n => absurd n hf) (fun _ => kk _ hl)
theorem am_sw_ok {dflt lo hi : Int} {offs : Array Int} {len : Nat} {ls : am_L} {st : List Value} {q : Nat × am_L × List Value} {LS : Array Slot} (hx : p.tables.exec = Jvm.exec) (hb : c.code = cc) (hd : decode cc pc = .ok (.tableswitch dflt lo hi offs, len)) (h : am_sw pc dflt lo hi offs ls st = some q)
    (hl : am_lr (am_v b ad) ls LS nL) (kk : ∀ LS1, am_lr (am_v b ad) q.2.1 LS1 nL → W p l e R s m args below meth c H locs cells slots Q (F0 m q.1 LS1 (q.2.2.map (am_v b ad)))) : W p l e R s m args below meth c H locs cells slots Q (F0 m pc LS (st.map (am_v b ad))) := by
  unfold am_sw at h
  split at h
  · split at h
    · rename_i hc
      obtain ⟨t, ht, rfl⟩ := am_gt_some h
      exact lv_tableOut hx hb hd (by simpa using hc) (am_tg_some ht) (kk _ hl)
    · rename_i hc
      simp only [Bool.or_eq_false_iff, decide_eq_false_iff_not] at hc
      split at h
      · obtain ⟨t, ht, rfl⟩ := am_gt_some h
        exact lv_tableIn hx hb hd hc.1 hc.2 (by assumption) (am_tg_some ht) (kk _ hl)
      · cases h
  · cases h
theorem am_lw_ok {dflt : Int} {ps : Array (Int × Int)} {len : Nat} {ls : am_L} {st : List Value} {q : Nat × am_L × List Value} {LS : Array Slot} (hx : p.tables.exec = Jvm.exec) (hb : c.code = cc) (hd : decode cc pc = .ok (.lookupswitch dflt ps, len)) (h : am_lw pc dflt ps ls st = some q)
    (hl : am_lr (am_v b ad) ls LS nL) (kk : ∀ LS1, am_lr (am_v b ad) q.2.1 LS1 nL → W p l e R s m args below meth c H locs cells slots Q (F0 m q.1 LS1 (q.2.2.map (am_v b ad)))) : W p l e R s m args below meth c H locs cells slots Q (F0 m pc LS (st.map (am_v b ad))) := by
  unfold am_lw at h
  split at h
  · obtain ⟨h1, h⟩ := am_if_some h
    obtain ⟨t, ht, rfl⟩ := am_gt_some h
    exact lv_lookup hx hb hd h1 rfl (am_tg_some ht) (kk _ hl)
  · cases h
set_option maxHeartbeats 4000000 in
theorem am_pu_ok {o : Nat} {i : Instr} {len : Nat} {ls : am_L} {st : List Value} {q : Nat × am_L × List Value} {LS : Array Slot} (hx : p.tables.exec = Jvm.exec) (hb : c.code = cc) (hown : s.vm.findClass (am_onm o) = some m.cls) (hts : ∀ w ∈ am_good, w.before args s = true) (hd : decode cc pc = .ok (i, len)) (h : am_pu o i len pc ls st = some q)
    (hl : am_lr (am_v b ad) ls LS nL) (kk : ∀ LS1, am_lr (am_v b ad) q.2.1 LS1 nL → W p l e R s m args below meth c H locs cells slots Q (F0 m q.1 LS1 (q.2.2.map (am_v b ad)))) : W p l e R s m args below meth c H locs cells slots Q (F0 m pc LS (st.map (am_v b ad))) := by
  unfold am_pu at h
  split at h
  -- .iconst v
  · obtain ⟨rfl, h⟩ := am_ck_some h
    cases h
    exact lv_iconst hx hb hd rfl (kk _ hl)
  -- .bipush v
  · obtain ⟨rfl, h⟩ := am_ck_some h
    cases h
    exact lv_bipush hx hb hd rfl (kk _ hl)
  -- .sipush v
  · obtain ⟨rfl, h⟩ := am_ck_some h
    cases h
    exact lv_sipush hx hb hd rfl (kk _ hl)
  -- .lconst v
  · obtain ⟨rfl, h⟩ := am_ck_some h
    cases h
    exact lv_lconst hx hb hd rfl (kk _ hl)
  -- .iload_n j
  · obtain ⟨rfl, h⟩ := am_ck_some h
    unfold am_ldi at h
    split at h
    · cases h; exact lv_iload_n hx hb hd rfl (am_lr_at hl (by assumption)) (kk _ hl)
    · cases h
  -- .iload j
  · obtain ⟨rfl, h⟩ := am_ck_some h
    unfold am_ldi at h
    split at h
    · cases h; exact lv_iload hx hb hd (am_lr_at hl (by assumption)) (kk _ hl)
    · cases h
  -- .lload_n j
  · obtain ⟨rfl, h⟩ := am_ck_some h
    unfold am_ldl at h
    split at h
    · cases h; exact lv_lload_n hx hb hd rfl (am_lr_at hl (by assumption)) (kk _ hl)
    · cases h
  -- .lload j
  · obtain ⟨rfl, h⟩ := am_ck_some h
    unfold am_ldl at h
    split at h
    · cases h; exact lv_lload hx hb hd (am_lr_at hl (by assumption)) (kk _ hl)
    · cases h
  -- .aload_n j
  · obtain ⟨rfl, h⟩ := am_ck_some h
    unfold am_lda at h
    split at h
    · cases h; exact lv_aload_n hx hb hd rfl (am_lr_at hl (by assumption)) (kk _ hl)
    · rename_i x hj
      cases h
      have hq := am_lr_at hl hj
      rw [show am_v b ad (.retAddr x) = va_rf (b x) from rfl] at hq
      have k2 := kk _ hl
      rw [List.map_cons, show am_v b ad (.retAddr x) = va_rf (b x) from rfl] at k2
      cases hbx : b x with
      | none => rw [hbx] at hq k2; exact lv_aload_nN hx hb hd rfl hq k2
      | some y => rw [hbx] at hq k2; exact lv_aload_n hx hb hd rfl hq k2
    · cases h
  -- .aload j
  · obtain ⟨rfl, h⟩ := am_ck_some h
    unfold am_lda at h
    split at h
    · cases h; exact lv_aload hx hb hd (am_lr_at hl (by assumption)) (kk _ hl)
    · rename_i x hj
      cases h
      have hq := am_lr_at hl hj
      rw [show am_v b ad (.retAddr x) = va_rf (b x) from rfl] at hq
      have k2 := kk _ hl
      rw [List.map_cons, show am_v b ad (.retAddr x) = va_rf (b x) from rfl] at k2
      cases hbx : b x with
      | none => rw [hbx] at hq k2; exact lv_aloadN hx hb hd hq k2
      | some y => rw [hbx] at hq k2; exact lv_aload hx hb hd hq k2
    · cases h
  -- .istore_n j
  · obtain ⟨rfl, h⟩ := am_ck_some h
    unfold am_sti at h
    split at h
    · obtain ⟨h1, h⟩ := am_if_some h
      cases h
      exact lv_istore_n hx hb hd rfl hl.1 (by rw [← hl.2]; exact Nat.blt_eq.mp h1) rfl (fun LS1 h2 => kk _ (am_lr_set1 hl h2))
    · cases h
  -- .istore j
  · obtain ⟨rfl, h⟩ := am_ck_some h
    unfold am_sti at h
    split at h
    · obtain ⟨h1, h⟩ := am_if_some h
      cases h
      exact lv_istore hx hb hd hl.1 (by rw [← hl.2]; exact Nat.blt_eq.mp h1) rfl (fun LS1 h2 => kk _ (am_lr_set1 hl h2))
    · cases h
  -- .lstore_n j
  · obtain ⟨rfl, h⟩ := am_ck_some h
    unfold am_stl at h
    split at h
    · obtain ⟨h1, h⟩ := am_if_some h
      cases h
      exact lv_lstore_n hx hb hd rfl hl.1 (by rw [← hl.2]; exact Nat.blt_eq.mp h1) rfl (fun LS1 h2 => kk _ (am_lr_set2 hl h2))
    · cases h
  -- .lstore j
  · obtain ⟨rfl, h⟩ := am_ck_some h
    unfold am_stl at h
    split at h
    · obtain ⟨h1, h⟩ := am_if_some h
      cases h
      exact lv_lstore hx hb hd hl.1 (by rw [← hl.2]; exact Nat.blt_eq.mp h1) rfl (fun LS1 h2 => kk _ (am_lr_set2 hl h2))
    · cases h
  -- .astore_n j
  · obtain ⟨rfl, h⟩ := am_ck_some h
    unfold am_sta at h
    split at h
    · obtain ⟨h1, h⟩ := am_if_some h
      cases h
      exact lv_astore_n hx hb hd rfl hl.1 (by rw [← hl.2]; exact Nat.blt_eq.mp h1) rfl (fun LS1 h2 => kk _ (am_lr_set1 hl h2))
    · rename_i x r _
      obtain ⟨h1, h⟩ := am_if_some h
      cases h
      rw [List.map_cons, show am_v b ad (.retAddr x) = va_rf (b x) from rfl]
      have hlt := Nat.blt_eq.mp h1
      rw [hl.2] at hlt
      cases hbx : b x with
      | none => exact lv_astore_nN hx hb hd rfl hl.1 hlt rfl (fun LS1 h2 => kk _ (am_lr_set1 (v := .retAddr x) hl (by rw [show am_v b ad (.retAddr x) = va_rf (b x) from rfl, hbx]; exact h2)))
      | some y => exact lv_astore_n hx hb hd rfl hl.1 hlt rfl (fun LS1 h2 => kk _ (am_lr_set1 (v := .retAddr x) hl (by rw [show am_v b ad (.retAddr x) = va_rf (b x) from rfl, hbx]; exact h2)))
    · cases h
  -- .astore j
  · obtain ⟨rfl, h⟩ := am_ck_some h
    unfold am_sta at h
    split at h
    · obtain ⟨h1, h⟩ := am_if_some h
      cases h
      exact lv_astore hx hb hd hl.1 (by rw [← hl.2]; exact Nat.blt_eq.mp h1) rfl (fun LS1 h2 => kk _ (am_lr_set1 hl h2))
    · rename_i x r _
      obtain ⟨h1, h⟩ := am_if_some h
      cases h
      rw [List.map_cons, show am_v b ad (.retAddr x) = va_rf (b x) from rfl]
      have hlt := Nat.blt_eq.mp h1
      rw [hl.2] at hlt
      cases hbx : b x with
      | none => exact lv_astoreN hx hb hd hl.1 hlt rfl (fun LS1 h2 => kk _ (am_lr_set1 (v := .retAddr x) hl (by rw [show am_v b ad (.retAddr x) = va_rf (b x) from rfl, hbx]; exact h2)))
      | some y => exact lv_astore hx hb hd hl.1 hlt rfl (fun LS1 h2 => kk _ (am_lr_set1 (v := .retAddr x) hl (by rw [show am_v b ad (.retAddr x) = va_rf (b x) from rfl, hbx]; exact h2)))
    · cases h
  -- .iinc j v
  · obtain ⟨rfl, h⟩ := am_ck_some h
    split at h
    · cases h
      obtain ⟨k9, hk9⟩ := am_lr_pl hl (by assumption)
      exact lv_iinc hx hb hd hl.1 hk9 rfl (by rw [← hl.2]; exact (List.getElem?_eq_some_iff.mp (by assumption)).1) rfl (fun LS1 h2 => kk _ (am_lr_set1 hl h2))
    · cases h
  -- .iadd
  · obtain ⟨rfl, h⟩ := am_ck_some h
    unfold am_bi at h
    split at h
    · cases h; exact lv_iadd hx hb hd (kk _ hl)
    · cases h
  -- .isub
  · obtain ⟨rfl, h⟩ := am_ck_some h
    unfold am_bi at h
    split at h
    · cases h; exact lv_isub hx hb hd (kk _ hl)
    · cases h
  -- .imul
  · obtain ⟨rfl, h⟩ := am_ck_some h
    unfold am_bi at h
    split at h
    · cases h; exact lv_imul hx hb hd (kk _ hl)
    · cases h
  -- .iand
  · obtain ⟨rfl, h⟩ := am_ck_some h
    unfold am_bi at h
    split at h
    · cases h; exact lv_iand hx hb hd (kk _ hl)
    · cases h
  -- .ior
  · obtain ⟨rfl, h⟩ := am_ck_some h
    unfold am_bi at h
    split at h
    · cases h; exact lv_ior hx hb hd (kk _ hl)
    · cases h
  -- .ixor
  · obtain ⟨rfl, h⟩ := am_ck_some h
    unfold am_bi at h
    split at h
    · cases h; exact lv_ixor hx hb hd (kk _ hl)
    · cases h
  -- .ishl
  · obtain ⟨rfl, h⟩ := am_ck_some h
    unfold am_bi at h
    split at h
    · cases h; exact lv_ishl hx hb hd (kk _ hl)
    · cases h
  -- .ishr
  · obtain ⟨rfl, h⟩ := am_ck_some h
    unfold am_bi at h
    split at h
    · cases h; exact lv_ishr hx hb hd (kk _ hl)
    · cases h
  -- .iushr
  · obtain ⟨rfl, h⟩ := am_ck_some h
    unfold am_bi at h
    split at h
    · cases h; exact lv_iushr hx hb hd rfl (kk _ hl)
    · cases h
  -- .idiv
  · obtain ⟨rfl, h⟩ := am_ck_some h
    unfold am_bd at h
    split at h
    · obtain ⟨h1, h⟩ := am_if_some h
      cases h
      exact lv_idiv hx hb hd (by simpa using h1) (kk _ hl)
    · cases h
  -- .irem
  · obtain ⟨rfl, h⟩ := am_ck_some h
    unfold am_bd at h
    split at h
    · obtain ⟨h1, h⟩ := am_if_some h
      cases h
      exact lv_irem hx hb hd (by simpa using h1) (kk _ hl)
    · cases h
  -- .ladd
  · obtain ⟨rfl, h⟩ := am_ck_some h
    unfold am_bl at h
    split at h
    · cases h; exact lv_ladd hx hb hd (kk _ hl)
    · cases h
  -- .lsub
  · obtain ⟨rfl, h⟩ := am_ck_some h
    unfold am_bl at h
    split at h
    · cases h; exact lv_lsub hx hb hd (kk _ hl)
    · cases h
  -- .lmul
  · obtain ⟨rfl, h⟩ := am_ck_some h
    unfold am_bl at h
    split at h
    · cases h; exact lv_lmul hx hb hd (kk _ hl)
    · cases h
  -- .land
  · obtain ⟨rfl, h⟩ := am_ck_some h
    unfold am_bl at h
    split at h
    · cases h; exact lv_land hx hb hd (kk _ hl)
    · cases h
  -- .lor
  · obtain ⟨rfl, h⟩ := am_ck_some h
    unfold am_bl at h
    split at h
    · cases h; exact lv_lor hx hb hd (kk _ hl)
    · cases h
  -- .lxor
  · obtain ⟨rfl, h⟩ := am_ck_some h
    unfold am_bl at h
    split at h
    · cases h; exact lv_lxor hx hb hd (kk _ hl)
    · cases h
  -- .lshl
  · obtain ⟨rfl, h⟩ := am_ck_some h
    unfold am_bs at h
    split at h
    · cases h; exact lv_lshl hx hb hd rfl (kk _ hl)
    · cases h
  -- .lushr
  · obtain ⟨rfl, h⟩ := am_ck_some h
    unfold am_bs at h
    split at h
    · cases h; exact lv_lushr hx hb hd rfl (kk _ hl)
    · cases h
  -- .ifCond .eq off
  · obtain ⟨rfl, h⟩ := am_ck_some h
    unfold am_j1 at h
    split at h
    · exact am_jp_ok h (fun ht kt kf => lv_if_eq hx hb hd ht kt kf) hl kk
    · cases h
  -- .ifCond .ne off
  · obtain ⟨rfl, h⟩ := am_ck_some h
    unfold am_j1 at h
    split at h
    · exact am_jp_ok h (fun ht kt kf => lv_if_ne hx hb hd ht kt (fun e => kf (fun h => h e))) hl kk
    · cases h
  -- .ifCond .lt off
  · obtain ⟨rfl, h⟩ := am_ck_some h
    unfold am_j1 at h
    split at h
    · exact am_jp_ok h (fun ht kt kf => lv_if_lt hx hb hd ht kt kf) hl kk
    · cases h
  -- .ifCond .ge off
  · obtain ⟨rfl, h⟩ := am_ck_some h
    unfold am_j1 at h
    split at h
    · exact am_jp_ok h (fun ht kt kf => lv_if_ge hx hb hd ht kt kf) hl kk
    · cases h
  -- .ifCond .gt off
  · obtain ⟨rfl, h⟩ := am_ck_some h
    unfold am_j1 at h
    split at h
    · exact am_jp_ok h (fun ht kt kf => lv_if_gt hx hb hd ht kt kf) hl kk
    · cases h
  -- .ifCond .le off
  · obtain ⟨rfl, h⟩ := am_ck_some h
    unfold am_j1 at h
    split at h
    · exact am_jp_ok h (fun ht kt kf => lv_if_le hx hb hd ht kt kf) hl kk
    · cases h
  -- .if_icmp .eq off
  · obtain ⟨rfl, h⟩ := am_ck_some h
    unfold am_j2 at h
    split at h
    · exact am_jp_ok h (fun ht kt kf => lv_icmp_eq hx hb hd ht kt kf) hl kk
    · cases h
  -- .if_icmp .ne off
  · obtain ⟨rfl, h⟩ := am_ck_some h
    unfold am_j2 at h
    split at h
    · exact am_jp_ok h (fun ht kt kf => lv_icmp_ne hx hb hd ht kt (fun e => kf (fun h => h e))) hl kk
    · cases h
  -- .if_icmp .lt off
  · obtain ⟨rfl, h⟩ := am_ck_some h
    unfold am_j2 at h
    split at h
    · exact am_jp_ok h (fun ht kt kf => lv_icmp_lt hx hb hd ht kt kf) hl kk
    · cases h
  -- .if_icmp .ge off
  · obtain ⟨rfl, h⟩ := am_ck_some h
    unfold am_j2 at h
    split at h
    · exact am_jp_ok h (fun ht kt kf => lv_icmp_ge hx hb hd ht kt kf) hl kk
    · cases h
  -- .if_icmp .gt off
  · obtain ⟨rfl, h⟩ := am_ck_some h
    unfold am_j2 at h
    split at h
    · exact am_jp_ok h (fun ht kt kf => lv_icmp_gt hx hb hd ht kt kf) hl kk
    · cases h
  -- .if_icmp .le off
  · obtain ⟨rfl, h⟩ := am_ck_some h
    unfold am_j2 at h
    split at h
    · exact am_jp_ok h (fun ht kt kf => lv_icmp_le hx hb hd ht kt kf) hl kk
    · cases h
  -- .goto off
  · obtain ⟨rfl, h⟩ := am_ck_some h
    obtain ⟨t, ht, rfl⟩ := am_gt_some h
    exact lv_goto hx hb hd (am_tg_some ht) (kk _ hl)
  -- .tableswitch dflt lo hi offs
  · exact am_sw_ok hx hb hd h hl kk
  -- .lookupswitch dflt ps
  · exact am_lw_ok hx hb hd h hl kk
  -- .dup
  · obtain ⟨rfl, h⟩ := am_ck_some h
    unfold am_dup at h
    split at h
    · obtain ⟨h1, h⟩ := am_if_some h
      cases h
      exact lv_dup hx hb hd (by rw [am_v_cat]; exact Nat.eq_of_beq_eq_true h1) (kk _ hl)
    · cases h
  -- .dup2
  · obtain ⟨rfl, h⟩ := am_ck_some h
    unfold am_dup2 at h
    split at h
    · split at h
      · cases h
        exact lv_dup2_2 hx hb hd (by rw [am_v_cat]; exact Nat.eq_of_beq_eq_true (by assumption)) (kk _ hl)
      · obtain ⟨h1, h⟩ := am_if_some h
        cases h
        simp only [Bool.and_eq_true] at h1
        exact lv_dup2_11 hx hb hd (by rw [am_v_cat]; exact Nat.eq_of_beq_eq_true h1.2) (by rw [am_v_cat]; exact Nat.eq_of_beq_eq_true h1.1) (kk _ hl)
    · cases h
  -- .pop
  · obtain ⟨rfl, h⟩ := am_ck_some h
    unfold am_pop at h
    split at h
    · obtain ⟨h1, h⟩ := am_if_some h
      cases h
      exact lv_pop hx hb hd (by rw [am_v_cat]; exact Nat.eq_of_beq_eq_true h1) (kk _ hl)
    · cases h
  -- .i2l
  · obtain ⟨rfl, h⟩ := am_ck_some h
    unfold am_c1 at h
    split at h
    · cases h; exact lv_i2l hx hb hd rfl (kk _ hl)
    · cases h
  -- .l2i
  · obtain ⟨rfl, h⟩ := am_ck_some h
    unfold am_c2 at h
    split at h
    · cases h; exact lv_l2i hx hb hd rfl (kk _ hl)
    · cases h
  -- .i2c
  · obtain ⟨rfl, h⟩ := am_ck_some h
    unfold am_c3 at h
    split at h
    · cases h; exact lv_i2c hx hb hd rfl (kk _ hl)
    · cases h
  -- .lcmp
  · obtain ⟨rfl, h⟩ := am_ck_some h
    unfold am_c4 at h
    split at h
    · cases h; exact W.lcmp hx hb hd (kk _ hl)
    · cases h
  -- .ldc j
  · obtain ⟨rfl, h⟩ := am_ck_some h
    split at h
    · cases h
      exact lv_ldc hx hb hown (hts _ (am_good_in (am_ki_mem (by assumption)) rfl)) hd (kk _ hl)
    · cases h
  -- .ldc_w j
  · obtain ⟨rfl, h⟩ := am_ck_some h
    split at h
    · cases h
      exact lv_ldcw hx hb hown (hts _ (am_good_in (am_ki_mem (by assumption)) rfl)) hd (kk _ hl)
    · cases h
  -- .ldc2_w j
  · obtain ⟨rfl, h⟩ := am_ck_some h
    split at h
    · cases h
      exact lv_ldc2 hx hb hown (hts _ (am_good_in (am_kl_mem (by assumption)) rfl)) hd (kk _ hl)
    · cases h
  · cases h
end AMP
