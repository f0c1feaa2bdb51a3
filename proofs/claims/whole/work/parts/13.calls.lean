/-! Calls, ends, runs: the machine does what the abstract one does -/
section AMV
variable {p : Program} {l : Launch} {e : Env} {R : Room} {s : State} {m : MethodId} {args : Array Value} {below : List Frame} {meth : Method} {c : Code} {H : Heap} {locs : List Loc} {Q : State → Prop}
variable {cc : ByteArray} {pc : Nat} {b : Nat → Option Nat} {ad : Nat → Nat} {nL : Nat} {dC : Nat → ClassId} {dI : Nat → Nat → Nat} {cA : Nat → ClassId} {A : Nat → Prop} {ls : am_L} {st : List Value} {w : am_W} {k n d : Nat} {LS : Array Slot} {o : Nat} {call : am_C} {t : am_S ⊕ am_O}
variable {j y' na kd p1 p2 p3 : Nat}
theorem am_sy_ok : [Cond.native arraycopyName, Cond.static arraycopyName, Cond.initialized "java/lang/System"].all (fun w => decide (w ∈ tables_1)) = true := by decide +kernel
theorem am_mc_ok : [Cond.instanceMethod objectInit, Cond.code objectInit ⟨#[0xb1]⟩ 1 none].all (fun w => decide (w ∈ tables_1)) = true := by decide +kernel
theorem am_vc_ok {thr : Bool} (hx : p.tables.exec = Jvm.exec) (hb : c.code = cc) (hml : c.maxLocals = nL) (hown : s.vm.findClass (am_onm o) = some m.cls) (hts : ∀ w ∈ am_good, w.before args s = true) (hI : am_Inv dC dI cA s) (hXt : am_Xt b A s) (hRf : d + 1 ≤ R.frames) (hRl : 41 * (d + 1) ≤ R.locals) (hcall : ∀ y as w q, call y as w = some q → am_wf w → am_pc y ≠ 9999 ∧ am_Sd l dC dI cA d y as w q)
    (hP : va_P (dC, dI) vwCl (am_ws cA ad w) H) (hD : va_D A (am_ws cA ad w)) (hS : va_S A s.heap H locs) (hA : ∀ q, s.heap.size ≤ q → A q) (hw : am_wf w) (hl : am_lr (am_v b ad) ls LS nL) (kb : am_kb p l e R s m args below meth c Q b ad nL dC dI cA A pc LS w.1.length t)
    (hq : (j, y', na, kd, p1, p2, p3) ∈ am_mds o) (hkd : (kd = 0 ∧ thr = true) ∨ (kd = 1 ∧ thr = false)) (hd : decode cc pc = .ok (.invokevirtual j, 3)) (h : am_vc call pc ls st w k n y' na thr = some t) : W p l e R s m args below meth c H locs k n Q (F0 m pc LS (st.map (am_v b ad))) := by
  have h6 : kd < 6 := by omega
  obtain ⟨-, -, -, -, -, g4, g5, -⟩ := am_lnk hq (Or.inl h6)
  unfold am_vc at h
  split at h
  · rename_i q r hdrop
    split at h
    · rename_i c1 hs
      obtain ⟨h1, h⟩ := am_if_some h
      unfold am_rm at h1
      simp only [Bool.and_eq_true] at h1
      obtain ⟨⟨e1, e2⟩, e3, e4⟩ := h1
      have e1 := Nat.eq_of_beq_eq_true e1
      have e2 : c1 < 13 := Nat.blt_eq.mp e2
      have e3 : na ≤ st.length := Nat.le_of_ble_eq_true e3
      have e4 : am_sum r ≤ 8 := Nat.le_of_ble_eq_true e4
      have hn : (((st.take na).reverse).map (am_v b ad)).length = na := by simp [e3]
      have hW8 : ((r.map (am_v b ad)).map fun v => v.category).sum ≤ 8 := by rw [am_sum_v]; exact e4
      rw [am_stk (V := am_v b ad) hdrop]
      have pre := am_pre (b := b) hI hXt hP hD hS hA (.ref q :: (st.take na).reverse)
      have recv0 := va_recv hI.1 hP (am_vw e2) (am_ws_at hs)
      dsimp only at recv0
      rw [am_cnm e2, e1] at recv0
      refine am_rs_ok hl hD hS hA h kb (fun v w' k' n' hres hc hn' => ?_) (fun E w' k' n' ht hres hc hn' => ?_)
      · obtain ⟨how, hSd⟩ := hcall _ _ _ _ hres hw
        have hM := am_toMet (hSd b ad H.size)
        have recv := recv0
        rw [(am_fact how).2.2.2.2.2.2] at recv
        rcases hkd with ⟨rfl, -⟩ | ⟨rfl, -⟩
        · exact va_runV (C := (am_mn y').cls) ⟨hx, hb, hml, hown, hts⟩ hM ⟨am_cB hq h6 (by decide) how hts hRf hRl, hts _ (g4 (by decide)), hts _ (g5 (by decide))⟩ ⟨pre.1, recv, pre.2⟩ rfl hn hl.1.1 rfl (lv_room hW8) hd ⟨hc, hn'⟩
        · exact va_runVN (C := (am_mn y').cls) ⟨hx, hb, hml, hown, hts⟩ hM ⟨am_cN hq h6 (by decide) how hts hI.2.1 hRf hRl, hts _ (g4 (by decide)), hts _ (g5 (by decide))⟩ ⟨pre.1, recv, pre.2⟩ rfl hn hl.1.1 rfl (lv_room hW8) hd ⟨hc, hn'⟩
      · obtain ⟨how, hSd⟩ := hcall _ _ _ _ hres hw
        have recv := recv0
        rw [(am_fact how).2.2.2.2.2.2] at recv
        rcases hkd with ⟨rfl, -⟩ | ⟨-, rfl⟩
        · exact vx_runV (C := (am_mn y').cls) ⟨hx, hb, hml, hown, hts⟩ (hSd b ad H.size) ⟨am_cB hq h6 (by decide) how hts hRf hRl, hts _ (g4 (by decide)), hts _ (g5 (by decide))⟩ ⟨pre.1, recv, pre.2⟩ rfl hn hl.1.1 rfl (lv_room hW8) hd ⟨hc, hn'⟩
        · cases ht
    · cases h
  · rename_i q r hdrop
    obtain ⟨h1, h⟩ := am_if_some h
    unfold am_rm am_strq at h1
    simp only [Bool.and_eq_true] at h1
    obtain ⟨⟨⟨e1, e2⟩, e0⟩, e3, e4⟩ := h1
    have e1 : 2 ≤ q := Nat.le_of_ble_eq_true e1
    have e2 : q < 23 := Nat.blt_eq.mp e2
    have e0 : am_ow y' = 18 := Nat.eq_of_beq_eq_true e0
    have e3 : na ≤ st.length := Nat.le_of_ble_eq_true e3
    have e4 : am_sum r ≤ 8 := Nat.le_of_ble_eq_true e4
    have hn : (((st.take na).reverse).map (am_v b ad)).length = na := by simp [e3]
    have hW8 : ((r.map (am_v b ad)).map fun v => v.category).sum ≤ 8 := by rw [am_sum_v]; exact e4
    rw [am_stk (V := am_v b ad) hdrop]
    have pre := am_pre (b := b) hI hXt hP hD hS hA (.retAddr q :: (st.take na).reverse)
    obtain ⟨a, t1, b1, b2, g1, -⟩ := hXt.2.2.2.2.1 (q - 2) (by omega)
    rw [show q - 2 + 2 = q from by omega] at b1
    have hv : am_v b ad (.retAddr q) = .ref a := by
      show va_rf (b q) = _
      rw [b1]
      rfl
    rw [List.map_cons, hv] at pre ⊢
    have recv0 : ∃ cell : Cell, H[a]? = some cell ∧ cell.vm.isStatics = false ∧ s.vm.findClass "java/lang/String" = some cell.cls := by
      obtain ⟨cell, h1, h2, h3, -⟩ := g1.kept hS.2.1
      exact ⟨cell, h1, h2, h3⟩
    refine am_rs_ok hl hD hS hA h kb (fun v w' k' n' hres hc hn' => ?_) (fun E w' k' n' ht hres hc hn' => by cases ht)
    obtain ⟨how, hSd⟩ := hcall _ _ _ _ hres hw
    have hM := am_toMet (hSd b ad H.size)
    have ec : (am_mn y').cls = "java/lang/String" := by rw [← (am_fact how).2.2.2.2.2.2, e0]; rfl
    have recv := recv0
    rw [← ec] at recv
    rcases hkd with ⟨rfl, -⟩ | ⟨rfl, -⟩
    · exact va_runV (C := (am_mn y').cls) ⟨hx, hb, hml, hown, hts⟩ hM ⟨am_cB hq h6 (by decide) how hts hRf hRl, hts _ (g4 (by decide)), hts _ (g5 (by decide))⟩ ⟨pre.1, recv, pre.2⟩ rfl hn hl.1.1 rfl (lv_room hW8) hd ⟨hc, hn'⟩
    · exact va_runVN (C := (am_mn y').cls) ⟨hx, hb, hml, hown, hts⟩ hM ⟨am_cN hq h6 (by decide) how hts hI.2.1 hRf hRl, hts _ (g4 (by decide)), hts _ (g5 (by decide))⟩ ⟨pre.1, recv, pre.2⟩ rfl hn hl.1.1 rfl (lv_room hW8) hd ⟨hc, hn'⟩
  · cases h
theorem am_sc_ok (hx : p.tables.exec = Jvm.exec) (hb : c.code = cc) (hml : c.maxLocals = nL) (hown : s.vm.findClass (am_onm o) = some m.cls) (hts : ∀ w ∈ am_good, w.before args s = true) (hI : am_Inv dC dI cA s) (hXt : am_Xt b A s) (hRf : d + 1 ≤ R.frames) (hRl : 41 * (d + 1) ≤ R.locals) (hcall : ∀ y as w q, call y as w = some q → am_wf w → am_pc y ≠ 9999 ∧ am_Sd l dC dI cA d y as w q)
    (hP : va_P (dC, dI) vwCl (am_ws cA ad w) H) (hD : va_D A (am_ws cA ad w)) (hS : va_S A s.heap H locs) (hA : ∀ q, s.heap.size ≤ q → A q) (hw : am_wf w) (hl : am_lr (am_v b ad) ls LS nL) (kb : am_kb p l e R s m args below meth c Q b ad nL dC dI cA A pc LS w.1.length t)
    (hq : (j, y', na, kd, p1, p2, p3) ∈ am_mds o) (hkd : kd = 2 ∨ kd = 3 ∨ kd = 8) (hd : decode cc pc = .ok (.invokestatic j, 3)) (h : am_sc call pc ls st w k n y' na false = some t) : W p l e R s m args below meth c H locs k n Q (F0 m pc LS (st.map (am_v b ad))) := by
  have h6 : kd < 6 ∨ kd = 8 := by omega
  obtain ⟨-, -, -, -, g3, -, -, -⟩ := am_lnk hq h6
  unfold am_sc at h
  obtain ⟨h1, h⟩ := am_if_some h
  unfold am_rm at h1
  simp only [Bool.and_eq_true] at h1
  obtain ⟨e3, e4⟩ := h1
  have e3 : na ≤ st.length := Nat.le_of_ble_eq_true e3
  have e4 : am_sum (st.drop na) ≤ 8 := Nat.le_of_ble_eq_true e4
  have hn : (((st.take na).reverse).map (am_v b ad)).length = na := by simp [e3]
  have hW8 : (((st.drop na).map (am_v b ad)).map fun v => v.category).sum ≤ 8 := by rw [am_sum_v]; exact e4
  rw [am_stk (V := am_v b ad) (na := na) (st := st) rfl]
  have pre := am_pre (b := b) hI hXt hP hD hS hA (st.take na).reverse
  refine am_rs_ok hl hD hS hA h kb (fun v w' k' n' hres hc hn' => ?_) (fun E w' k' n' ht hres hc hn' => by cases ht)
  have how := (hcall _ _ _ _ hres hw).1
  have hM := am_toMet ((hcall _ _ _ _ hres hw).2 b ad H.size)
  rcases hkd with rfl | rfl | rfl
  · exact va_runS ⟨hx, hb, hml, hown, hts⟩ hM ⟨am_cB hq (by decide) (by decide) how hts hRf hRl, hts _ (g3 (by decide))⟩ pre rfl hn hl.1.1 rfl (lv_room hW8) hd ⟨hc, hn'⟩
  · exact va_runSN ⟨hx, hb, hml, hown, hts⟩ hM ⟨am_cN hq (by decide) (by decide) how hts hI.2.1 hRf hRl, hts _ (g3 (by decide)), trivial⟩ pre rfl hn hl.1.1 rfl (lv_room hW8) hd ⟨hc, hn'⟩
  · exact vx_runSW ⟨hx, hb, hml, hown, hts⟩ hM (am_cH hq how hts hRf hRl) pre rfl hn hl.1.1 rfl (lv_room hW8) hd ⟨hc, hn'⟩
theorem am_ac_ok (hx : p.tables.exec = Jvm.exec) (hb : c.code = cc) (hml : c.maxLocals = nL) (hown : s.vm.findClass (am_onm o) = some m.cls) (hts : ∀ w ∈ am_good, w.before args s = true) (hI : am_Inv dC dI cA s) (hXt : am_Xt b A s) (hRf : d + 1 ≤ R.frames) (hRl : 41 * (d + 1) ≤ R.locals) (hcall : ∀ y as w q, call y as w = some q → am_wf w → am_pc y ≠ 9999 ∧ am_Sd l dC dI cA d y as w q)
    (hP : va_P (dC, dI) vwCl (am_ws cA ad w) H) (hD : va_D A (am_ws cA ad w)) (hS : va_S A s.heap H locs) (hA : ∀ q, s.heap.size ≤ q → A q) (hw : am_wf w) (hl : am_lr (am_v b ad) ls LS nL) (kb : am_kb p l e R s m args below meth c Q b ad nL dC dI cA A pc LS w.1.length t)
    (hq : (j, y', na, 7, p1, p2, p3) ∈ am_mds o) (hd : decode cc pc = .ok (.invokestatic j, 3)) (h : am_ac pc ls st w k n = some t) : W p l e R s m args below meth c H locs k n Q (F0 m pc LS (st.map (am_v b ad))) := by
  have h1 := am_md_ok hq
  unfold am_cok at h1
  dsimp only at h1
  simp only [Bool.or_eq_true, Bool.and_eq_true, decide_eq_true_eq] at h1
  have hlk : Cond.methodLink (am_onm o) j arraycopyName ∈ am_good := by
    rcases h1 with (h1 | h1) | h1
    · exact absurd h1.1 (by decide)
    · exact am_good_in (am_is_mem h1.2) rfl
    · exact absurd h1.1.2 (by decide)
  have z := am_sy_ok
  simp only [List.all_cons, List.all_nil, Bool.and_true, Bool.and_eq_true, decide_eq_true_eq] at z
  unfold am_ac at h
  split at h
  · split at h
    · split at h
      · rename_i L dp a1 sp a0 r _ L0 h0 _ L1 h1
        obtain ⟨e1, h⟩ := am_if_some h
        cases h
        simp only [Bool.and_eq_true, decide_eq_true_eq] at e1
        obtain ⟨⟨⟨⟨⟨e1, e2⟩, e3⟩, e4⟩, e5⟩, e6⟩ := e1
        have e6 : am_sum r ≤ 8 := Nat.le_of_ble_eq_true e6
        have hW8 : ((r.map (am_v b ad)).map fun v => v.category).sum ≤ 8 := by rw [am_sum_v]; exact e6
        have hset : (am_ws cA ad w).set a1 (ad a1, .inl (cA 0, L1, .inl (va_cpy (w.2.1 a0) (w.2.1 a1) sp.toNatClampNeg dp.toNatClampNeg L.toNatClampNeg))) = am_ws cA ad (w.1, am_cp w.2.1 a1 (va_cpy (w.2.1 a0) (w.2.1 a1) sp.toNatClampNeg dp.toNatClampNeg L.toNatClampNeg), w.2.2.1, w.2.2.2) := by
          have hq9 := am_ws_set (cA := cA) (ad := ad) (w := w) (w' := (w.1, am_cp w.2.1 a1 (va_cpy (w.2.1 a0) (w.2.1 a1) sp.toNatClampNeg dp.toNatClampNeg L.toNatClampNeg), w.2.2.1, w.2.2.2)) (s := .inr (0, L1)) rfl h1 (fun o' s' hne => am_ek_eq (w' := (w.1, am_cp w.2.1 a1 (va_cpy (w.2.1 a0) (w.2.1 a1) sp.toNatClampNeg dp.toNatClampNeg L.toNatClampNeg), w.2.2.1, w.2.2.2)) (w := w) (by funext q; simp [am_cp, hne]) rfl rfl s')
          have hcp : am_cp w.2.1 a1 (va_cpy (w.2.1 a0) (w.2.1 a1) sp.toNatClampNeg dp.toNatClampNeg L.toNatClampNeg) a1 = va_cpy (w.2.1 a0) (w.2.1 a1) sp.toNatClampNeg dp.toNatClampNeg L.toNatClampNeg := by
            funext q
            simp [am_cp]
          rw [← hq9]
          show _ = List.set (am_ws cA ad w) a1 (ad a1, .inl (cA 0, L1, .inl (am_cp w.2.1 a1 (va_cpy (w.2.1 a0) (w.2.1 a1) sp.toNatClampNeg dp.toNatClampNeg L.toNatClampNeg) a1)))
          rw [hcp]
        have hz : nativeFrameWords "java/lang/System" "arraycopy" 5 ≤ 20 := by decide +kernel
        refine va_copyi (D := (dC, dI)) (f := w.2.1 a0) (g := w.2.1 a1) (ty := .int) hx hb (by rw [hml]; exact hl.1.1.symm) hown (hts _ hlk) (hts _ (am_good_in (List.mem_append_right _ z.1) rfl)) (hts _ (am_good_in (List.mem_append_right _ z.2.1) rfl)) (hts _ (am_good_in (List.mem_append_right _ z.2.2) rfl)) hI.1 hP hD hS a0 a1 0 0 (am_ws_at h0) (am_ws_at h1) rfl rfl rfl e1 e2 e3 e4 e5 (fun _ _ => rfl) (by omega) (Nat.le_trans (Nat.add_le_add hW8 (Nat.add_le_add_right hz 11)) (by omega)) hd (fun H1 locs1 x1 x2 x3 => ?_)
        rw [hset] at x1 x2
        exact kb.2.2 ad H1 locs1 LS am_agr_rf x1 x2 x3 hl
      · cases h
    · cases h
  · cases h
theorem am_ic_ok (hx : p.tables.exec = Jvm.exec) (hb : c.code = cc) (hml : c.maxLocals = nL) (hown : s.vm.findClass (am_onm o) = some m.cls) (hts : ∀ w ∈ am_good, w.before args s = true) (hI : am_Inv dC dI cA s) (hXt : am_Xt b A s) (hRf : d + 1 ≤ R.frames) (hRl : 41 * (d + 1) ≤ R.locals) (hcall : ∀ y as w q, call y as w = some q → am_wf w → am_pc y ≠ 9999 ∧ am_Sd l dC dI cA d y as w q)
    (hP : va_P (dC, dI) vwCl (am_ws cA ad w) H) (hD : va_D A (am_ws cA ad w)) (hS : va_S A s.heap H locs) (hA : ∀ q, s.heap.size ≤ q → A q) (hw : am_wf w) (hl : am_lr (am_v b ad) ls LS nL) (kb : am_kb p l e R s m args below meth c Q b ad nL dC dI cA A pc LS w.1.length t)
    (hq : (j, y', na, kd, p1, p2, p3) ∈ am_mds o) (hkd : kd = 4 ∨ kd = 5) (hd : decode cc pc = .ok (.invokespecial j, 3)) (h : am_ic call pc ls st w k n y' na = some t) : W p l e R s m args below meth c H locs k n Q (F0 m pc LS (st.map (am_v b ad))) := by
  have h6 : kd < 6 := by omega
  obtain ⟨-, -, -, -, -, g4, -, g6⟩ := am_lnk hq (Or.inl h6)
  unfold am_ic at h
  split at h
  · rename_i q r hdrop
    obtain ⟨h1, h⟩ := am_if_some h
    unfold am_rm at h1
    simp only [Bool.and_eq_true] at h1
    obtain ⟨⟨e3, e4⟩, e5⟩ := h1
    have e3 : na ≤ st.length := Nat.le_of_ble_eq_true e3
    have e4 : am_sum r ≤ 8 := Nat.le_of_ble_eq_true e4
    have hrt : am_rt y' = none := by
      unfold am_rv at e5
      split at e5
      · assumption
      · cases e5
    have hn : (((st.take na).reverse).map (am_v b ad)).length = na := by simp [e3]
    have hW8 : ((r.map (am_v b ad)).map fun v => v.category).sum ≤ 8 := by rw [am_sum_v]; exact e4
    rw [am_stk (V := am_v b ad) hdrop]
    have pre := am_pre (b := b) hI hXt hP hD hS hA (.ref q :: (st.take na).reverse)
    refine am_rs_ok hl hD hS hA h kb (fun v w' k' n' hres hc hn' => ?_) (fun E w' k' n' ht hres hc hn' => by cases ht)
    have how := (hcall _ _ _ _ hres hw).1
    have hM := am_toMet ((hcall _ _ _ _ hres hw).2 b ad H.size)
    rcases hkd with rfl | rfl
    · have hB := am_cB (R := R) (s := s) (args := args) (k' := k') (n' := n') hq h6 (by decide) how hts hRf hRl
      rw [hrt] at hB
      exact va_runI ⟨hx, hb, hml, hown, hts⟩ hM ⟨hB, g6 (by decide), hts _ (g4 (by decide))⟩ pre rfl hn hl.1.1 rfl (lv_room hW8) hd ⟨hc, hn'⟩
    · have hB := am_cN (R := R) (s := s) (args := args) (k' := k') (n' := n') hq h6 (by decide) how hts hI.2.1 hRf hRl
      rw [hrt] at hB
      exact va_runIN ⟨hx, hb, hml, hown, hts⟩ hM ⟨hB, g6 (by decide), hts _ (g4 (by decide))⟩ pre rfl hn hl.1.1 rfl (lv_room hW8) hd ⟨hc, hn'⟩
  · cases h
theorem am_oi_ok (hx : p.tables.exec = Jvm.exec) (hb : c.code = cc) (hml : c.maxLocals = nL) (hown : s.vm.findClass (am_onm o) = some m.cls) (hts : ∀ w ∈ am_good, w.before args s = true) (hI : am_Inv dC dI cA s) (hXt : am_Xt b A s) (hRf : d + 1 ≤ R.frames) (hRl : 41 * (d + 1) ≤ R.locals) (hcall : ∀ y as w q, call y as w = some q → am_wf w → am_pc y ≠ 9999 ∧ am_Sd l dC dI cA d y as w q)
    (hP : va_P (dC, dI) vwCl (am_ws cA ad w) H) (hD : va_D A (am_ws cA ad w)) (hS : va_S A s.heap H locs) (hA : ∀ q, s.heap.size ≤ q → A q) (hw : am_wf w) (hl : am_lr (am_v b ad) ls LS nL) (kb : am_kb p l e R s m args below meth c Q b ad nL dC dI cA A pc LS w.1.length t)
    (hq : (j, y', na, 6, p1, p2, p3) ∈ am_mds o) (hd : decode cc pc = .ok (.invokespecial j, 3)) (h : am_oi pc ls st w k n = some t) : W p l e R s m args below meth c H locs k n Q (F0 m pc LS (st.map (am_v b ad))) := by
  have h1 := am_md_ok hq
  unfold am_cok at h1
  dsimp only at h1
  simp only [Bool.or_eq_true, Bool.and_eq_true, decide_eq_true_eq] at h1
  have hlk : Cond.methodLink (am_onm o) j objectInit ∈ am_good := by
    rcases h1 with (h1 | h1) | h1
    · exact am_good_in (am_is_mem h1.2) rfl
    · exact absurd h1.1 (by decide)
    · exact absurd h1.1.2 (by decide)
  have z := am_mc_ok
  simp only [List.all_cons, List.all_nil, Bool.and_true, Bool.and_eq_true, decide_eq_true_eq] at z
  unfold am_oi at h
  split at h
  · rename_i q r
    obtain ⟨e4, h⟩ := am_if_some h
    cases h
    have e4 : am_sum r ≤ 8 := Nat.le_of_ble_eq_true e4
    have hW8 : ((r.map (am_v b ad)).map fun v => v.category).sum ≤ 8 := by rw [am_sum_v]; exact e4
    refine W.objInit (g := F0 m pc LS ((Value.ref q :: r).map (am_v b ad))) hx hb hown (hts _ hlk) (hts _ (am_good_in (List.mem_append_right _ z.1) rfl)) (hts _ (am_good_in (List.mem_append_right _ z.2) rfl)) rfl (by rw [hml]; exact hl.1.1) rfl hd (by omega) (by have := lv_room (pc := pc) (ls := LS) (rest := (Value.ref q :: r).map (am_v b ad)) (m := m) hW8; omega) ?_
    exact kb.2.2 ad H locs LS am_agr_rf hP hD hS hl
  · cases h
theorem am_ca_ok {i : Instr} {len : Nat} (hx : p.tables.exec = Jvm.exec) (hb : c.code = cc) (hml : c.maxLocals = nL) (hown : s.vm.findClass (am_onm o) = some m.cls) (hts : ∀ w ∈ am_good, w.before args s = true) (hI : am_Inv dC dI cA s) (hXt : am_Xt b A s) (hRf : d + 1 ≤ R.frames) (hRl : 41 * (d + 1) ≤ R.locals) (hcall : ∀ y as w q, call y as w = some q → am_wf w → am_pc y ≠ 9999 ∧ am_Sd l dC dI cA d y as w q)
    (hP : va_P (dC, dI) vwCl (am_ws cA ad w) H) (hD : va_D A (am_ws cA ad w)) (hS : va_S A s.heap H locs) (hA : ∀ q, s.heap.size ≤ q → A q) (hw : am_wf w) (hl : am_lr (am_v b ad) ls LS nL) (kb : am_kb p l e R s m args below meth c Q b ad nL dC dI cA A pc LS w.1.length t)
    (hd : decode cc pc = .ok (i, len)) (h : am_ca call o i len pc ls st w k n = some t) : W p l e R s m args below meth c H locs k n Q (F0 m pc LS (st.map (am_v b ad))) := by
  unfold am_ca at h
  split at h
  · obtain ⟨rfl, h⟩ := am_ck_some h
    split at h
    · rename_i hq
      have hq := am_lk_mem hq
      split at h
      · exact am_vc_ok hx hb hml hown hts hI hXt hRf hRl hcall hP hD hS hA hw hl kb hq (Or.inl ⟨rfl, rfl⟩) hd h
      · exact am_vc_ok hx hb hml hown hts hI hXt hRf hRl hcall hP hD hS hA hw hl kb hq (Or.inr ⟨rfl, rfl⟩) hd h
      · cases h
    · cases h
  · obtain ⟨rfl, h⟩ := am_ck_some h
    split at h
    · rename_i hq
      have hq := am_lk_mem hq
      split at h
      · exact am_sc_ok hx hb hml hown hts hI hXt hRf hRl hcall hP hD hS hA hw hl kb hq (Or.inl rfl) hd h
      · exact am_sc_ok hx hb hml hown hts hI hXt hRf hRl hcall hP hD hS hA hw hl kb hq (Or.inr (Or.inl rfl)) hd h
      · exact am_ac_ok hx hb hml hown hts hI hXt hRf hRl hcall hP hD hS hA hw hl kb hq hd h
      · exact am_sc_ok hx hb hml hown hts hI hXt hRf hRl hcall hP hD hS hA hw hl kb hq (Or.inr (Or.inr rfl)) hd h
      · cases h
    · cases h
  · obtain ⟨rfl, h⟩ := am_ck_some h
    split at h
    · rename_i hq
      have hq := am_lk_mem hq
      split at h
      · exact am_ic_ok hx hb hml hown hts hI hXt hRf hRl hcall hP hD hS hA hw hl kb hq (Or.inl rfl) hd h
      · exact am_ic_ok hx hb hml hown hts hI hXt hRf hRl hcall hP hD hS hA hw hl kb hq (Or.inr rfl) hd h
      · exact am_oi_ok hx hb hml hown hts hI hXt hRf hRl hcall hP hD hS hA hw hl kb hq hd h
      · cases h
    · cases h
  · cases h
end AMV
