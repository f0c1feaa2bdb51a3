/-! Calls, ends, runs: the machine does what the abstract one does -/
section AMV
variable {p : Program} {l : Launch} {e : Env} {R : Room} {s : State} {m : MethodId} {args : Array Value} {below : List Frame} {meth : Method} {c : Code} {H : Heap} {locs : List Loc} {Q : State → Prop}
variable {cc : ByteArray} {pc : Nat} {b : Nat → Option Nat} {ad : Nat → Nat} {nL : Nat} {dC : Nat → ClassId} {dI : Nat → Nat → Nat} {cA : Nat → ClassId} {A : Nat → Prop} {ls : am_L} {st : List Value} {w : am_W} {k n d : Nat} {LS : Array Slot} {o : Nat} {call : am_C} {t : am_S ⊕ am_O}
variable {j y' na kd p1 p2 p3 : Nat}
theorem am_mc_ok : [Cond.instanceMethod objectInit, Cond.code objectInit ⟨#[0xb1]⟩ 1 none].all (fun w => decide (w ∈ tables_1)) = true := by decide +kernel
theorem am_vc_ok {thr : Bool} (hx : p.tables.exec = Jvm.exec) (hb : c.code = cc) (hml : c.maxLocals = nL) (hown : s.vm.findClass (am_onm o) = some m.cls) (hts : ∀ w ∈ am_good, w.before args s = true) (hI : am_Inv dC dI cA s) (hXt : am_Xt b A s) (hRf : d + 1 ≤ R.frames) (hRl : 41 * (d + 1) ≤ R.locals) (hcall : ∀ y as w q, call y as w = some q → am_wf w → am_ow y < 21 ∧ am_Sd l dC dI cA d y as w q)
    (hP : va_P (dC, dI) vwCl (am_ws cA ad w) H) (hD : va_D A (am_ws cA ad w)) (hS : va_S A s.heap H locs) (hA : ∀ q, s.heap.size ≤ q → A q) (hw : am_wf w) (hl : am_lr (am_v b ad) ls LS nL) (kb : am_kb p l e R s m args below meth c Q b ad nL dC dI cA A pc LS w.1.length t)
    (hq : (j, y', na, kd, p1, p2, p3) ∈ am_mds o) (hkd : (kd = 0 ∧ thr = true) ∨ (kd = 1 ∧ thr = false)) (hd : decode cc pc = .ok (.invokevirtual j, 3)) (h : am_vc call pc ls st w k n y' na thr = some t) : W p l e R s m args below meth c H locs k n Q (F0 m pc LS (st.map (am_v b ad))) := by
  have h6 : kd < 6 := by omega
  obtain ⟨-, -, -, -, g4, g5, -⟩ := am_lnk hq h6
  unfold am_vc at h
  split at h
  · rename_i q r hdrop
    split at h
    · rename_i c1 hs
      obtain ⟨h1, h⟩ := am_if_some h
      unfold am_rm at h1
      simp only [Bool.and_eq_true] at h1
      obtain ⟨⟨e1, e2⟩, e3, e4⟩ := h1
      have e1 := Nat.eq_of_beq_eq_true e1
      have e2 : c1 < 13 := Nat.blt_eq.mp e2
      have e3 : na ≤ st.length := Nat.le_of_ble_eq_true e3
      have e4 : am_sum r ≤ 8 := Nat.le_of_ble_eq_true e4
      have hn : (((st.take na).reverse).map (am_v b ad)).length = na := by simp [e3]
      have hW8 : ((r.map (am_v b ad)).map fun v => v.category).sum ≤ 8 := by rw [am_sum_v]; exact e4
      rw [am_stk (V := am_v b ad) hdrop]
      have pre := am_pre (b := b) hI hXt hP hD hS hA (.ref q :: (st.take na).reverse)
      have how : am_ow y' < 21 := by omega
      have recv := va_recv hI.1 hP (am_vw e2) (am_ws_at hs)
      dsimp only at recv
      rw [am_cnm e2, e1, (am_fact how).2.2.2.2.2.2] at recv
      refine am_rs_ok hl hD hS hA h kb (fun v w' k' n' hres hc hn' => ?_) (fun E w' k' n' ht hres hc hn' => ?_)
      · have hM := am_toMet ((hcall _ _ _ _ hres hw).2 b ad H.size)
        rcases hkd with ⟨rfl, -⟩ | ⟨rfl, -⟩
        · exact va_runV (C := (am_mn y').cls) ⟨hx, hb, hml, hown, hts⟩ hM ⟨am_cB hq h6 (by decide) how hts hRf hRl, hts _ (g4 (by decide)), hts _ (g5 (by decide))⟩ ⟨pre.1, recv, pre.2⟩ rfl hn hl.1.1 rfl (lv_room hW8) hd ⟨hc, hn'⟩
        · exact va_runVN (C := (am_mn y').cls) ⟨hx, hb, hml, hown, hts⟩ hM ⟨am_cN hq h6 (by decide) how hts hI.2.1 hRf hRl, hts _ (g4 (by decide)), hts _ (g5 (by decide))⟩ ⟨pre.1, recv, pre.2⟩ rfl hn hl.1.1 rfl (lv_room hW8) hd ⟨hc, hn'⟩
      · rcases hkd with ⟨rfl, -⟩ | ⟨-, rfl⟩
        · exact vx_runV (C := (am_mn y').cls) ⟨hx, hb, hml, hown, hts⟩ ((hcall _ _ _ _ hres hw).2 b ad H.size) ⟨am_cB hq h6 (by decide) how hts hRf hRl, hts _ (g4 (by decide)), hts _ (g5 (by decide))⟩ ⟨pre.1, recv, pre.2⟩ rfl hn hl.1.1 rfl (lv_room hW8) hd ⟨hc, hn'⟩
        · cases ht
    · cases h
  · cases h
theorem am_sc_ok (hx : p.tables.exec = Jvm.exec) (hb : c.code = cc) (hml : c.maxLocals = nL) (hown : s.vm.findClass (am_onm o) = some m.cls) (hts : ∀ w ∈ am_good, w.before args s = true) (hI : am_Inv dC dI cA s) (hXt : am_Xt b A s) (hRf : d + 1 ≤ R.frames) (hRl : 41 * (d + 1) ≤ R.locals) (hcall : ∀ y as w q, call y as w = some q → am_wf w → am_ow y < 21 ∧ am_Sd l dC dI cA d y as w q)
    (hP : va_P (dC, dI) vwCl (am_ws cA ad w) H) (hD : va_D A (am_ws cA ad w)) (hS : va_S A s.heap H locs) (hA : ∀ q, s.heap.size ≤ q → A q) (hw : am_wf w) (hl : am_lr (am_v b ad) ls LS nL) (kb : am_kb p l e R s m args below meth c Q b ad nL dC dI cA A pc LS w.1.length t)
    (hq : (j, y', na, kd, p1, p2, p3) ∈ am_mds o) (hkd : kd = 2 ∨ kd = 3) (hd : decode cc pc = .ok (.invokestatic j, 3)) (h : am_sc call pc ls st w k n y' na false = some t) : W p l e R s m args below meth c H locs k n Q (F0 m pc LS (st.map (am_v b ad))) := by
  have h6 : kd < 6 := by omega
  obtain ⟨-, -, -, g3, -, -, -⟩ := am_lnk hq h6
  unfold am_sc at h
  obtain ⟨h1, h⟩ := am_if_some h
  unfold am_rm at h1
  simp only [Bool.and_eq_true] at h1
  obtain ⟨e3, e4⟩ := h1
  have e3 : na ≤ st.length := Nat.le_of_ble_eq_true e3
  have e4 : am_sum (st.drop na) ≤ 8 := Nat.le_of_ble_eq_true e4
  have hn : (((st.take na).reverse).map (am_v b ad)).length = na := by simp [e3]
  have hW8 : (((st.drop na).map (am_v b ad)).map fun v => v.category).sum ≤ 8 := by rw [am_sum_v]; exact e4
  rw [am_stk (V := am_v b ad) (na := na) (st := st) rfl]
  have pre := am_pre (b := b) hI hXt hP hD hS hA (st.take na).reverse
  refine am_rs_ok hl hD hS hA h kb (fun v w' k' n' hres hc hn' => ?_) (fun E w' k' n' ht hres hc hn' => by cases ht)
  have how := (hcall _ _ _ _ hres hw).1
  have hM := am_toMet ((hcall _ _ _ _ hres hw).2 b ad H.size)
  rcases hkd with rfl | rfl
  · exact va_runS ⟨hx, hb, hml, hown, hts⟩ hM ⟨am_cB hq h6 (by decide) how hts hRf hRl, hts _ (g3 (by decide))⟩ pre rfl hn hl.1.1 rfl (lv_room hW8) hd ⟨hc, hn'⟩
  · exact va_runSN ⟨hx, hb, hml, hown, hts⟩ hM ⟨am_cN hq h6 (by decide) how hts hI.2.1 hRf hRl, hts _ (g3 (by decide)), trivial⟩ pre rfl hn hl.1.1 rfl (lv_room hW8) hd ⟨hc, hn'⟩
theorem am_ic_ok (hx : p.tables.exec = Jvm.exec) (hb : c.code = cc) (hml : c.maxLocals = nL) (hown : s.vm.findClass (am_onm o) = some m.cls) (hts : ∀ w ∈ am_good, w.before args s = true) (hI : am_Inv dC dI cA s) (hXt : am_Xt b A s) (hRf : d + 1 ≤ R.frames) (hRl : 41 * (d + 1) ≤ R.locals) (hcall : ∀ y as w q, call y as w = some q → am_wf w → am_ow y < 21 ∧ am_Sd l dC dI cA d y as w q)
    (hP : va_P (dC, dI) vwCl (am_ws cA ad w) H) (hD : va_D A (am_ws cA ad w)) (hS : va_S A s.heap H locs) (hA : ∀ q, s.heap.size ≤ q → A q) (hw : am_wf w) (hl : am_lr (am_v b ad) ls LS nL) (kb : am_kb p l e R s m args below meth c Q b ad nL dC dI cA A pc LS w.1.length t)
    (hq : (j, y', na, kd, p1, p2, p3) ∈ am_mds o) (hkd : kd = 4 ∨ kd = 5) (hd : decode cc pc = .ok (.invokespecial j, 3)) (h : am_ic call pc ls st w k n y' na = some t) : W p l e R s m args below meth c H locs k n Q (F0 m pc LS (st.map (am_v b ad))) := by
  have h6 : kd < 6 := by omega
  obtain ⟨-, -, -, -, g4, -, g6⟩ := am_lnk hq h6
  unfold am_ic at h
  split at h
  · rename_i q r hdrop
    obtain ⟨h1, h⟩ := am_if_some h
    unfold am_rm at h1
    simp only [Bool.and_eq_true] at h1
    obtain ⟨⟨e3, e4⟩, e5⟩ := h1
    have e3 : na ≤ st.length := Nat.le_of_ble_eq_true e3
    have e4 : am_sum r ≤ 8 := Nat.le_of_ble_eq_true e4
    have hrt : am_rt y' = none := by
      unfold am_rv at e5
      split at e5
      · assumption
      · cases e5
    have hn : (((st.take na).reverse).map (am_v b ad)).length = na := by simp [e3]
    have hW8 : ((r.map (am_v b ad)).map fun v => v.category).sum ≤ 8 := by rw [am_sum_v]; exact e4
    rw [am_stk (V := am_v b ad) hdrop]
    have pre := am_pre (b := b) hI hXt hP hD hS hA (.ref q :: (st.take na).reverse)
    refine am_rs_ok hl hD hS hA h kb (fun v w' k' n' hres hc hn' => ?_) (fun E w' k' n' ht hres hc hn' => by cases ht)
    have how := (hcall _ _ _ _ hres hw).1
    have hM := am_toMet ((hcall _ _ _ _ hres hw).2 b ad H.size)
    rcases hkd with rfl | rfl
    · have hB := am_cB (R := R) (s := s) (args := args) (k' := k') (n' := n') hq h6 (by decide) how hts hRf hRl
      rw [hrt] at hB
      exact va_runI ⟨hx, hb, hml, hown, hts⟩ hM ⟨hB, g6 (by decide), hts _ (g4 (by decide))⟩ pre rfl hn hl.1.1 rfl (lv_room hW8) hd ⟨hc, hn'⟩
    · have hB := am_cN (R := R) (s := s) (args := args) (k' := k') (n' := n') hq h6 (by decide) how hts hI.2.1 hRf hRl
      rw [hrt] at hB
      exact va_runIN ⟨hx, hb, hml, hown, hts⟩ hM ⟨hB, g6 (by decide), hts _ (g4 (by decide))⟩ pre rfl hn hl.1.1 rfl (lv_room hW8) hd ⟨hc, hn'⟩
  · cases h
theorem am_oi_ok (hx : p.tables.exec = Jvm.exec) (hb : c.code = cc) (hml : c.maxLocals = nL) (hown : s.vm.findClass (am_onm o) = some m.cls) (hts : ∀ w ∈ am_good, w.before args s = true) (hI : am_Inv dC dI cA s) (hXt : am_Xt b A s) (hRf : d + 1 ≤ R.frames) (hRl : 41 * (d + 1) ≤ R.locals) (hcall : ∀ y as w q, call y as w = some q → am_wf w → am_ow y < 21 ∧ am_Sd l dC dI cA d y as w q)
    (hP : va_P (dC, dI) vwCl (am_ws cA ad w) H) (hD : va_D A (am_ws cA ad w)) (hS : va_S A s.heap H locs) (hA : ∀ q, s.heap.size ≤ q → A q) (hw : am_wf w) (hl : am_lr (am_v b ad) ls LS nL) (kb : am_kb p l e R s m args below meth c Q b ad nL dC dI cA A pc LS w.1.length t)
    (hq : (j, y', na, 6, p1, p2, p3) ∈ am_mds o) (hd : decode cc pc = .ok (.invokespecial j, 3)) (h : am_oi pc ls st w k n = some t) : W p l e R s m args below meth c H locs k n Q (F0 m pc LS (st.map (am_v b ad))) := by
  have h1 := am_md_ok hq
  unfold am_cok at h1
  dsimp only at h1
  simp only [Bool.or_eq_true, Bool.and_eq_true, decide_eq_true_eq] at h1
  have hlk : Cond.methodLink (am_onm o) j objectInit ∈ am_good := by
    rcases h1 with h1 | h1
    · exact am_good_in (am_is_mem h1.2) rfl
    · exact absurd h1.2 (by decide)
  have z := am_mc_ok
  simp only [List.all_cons, List.all_nil, Bool.and_true, Bool.and_eq_true, decide_eq_true_eq] at z
  unfold am_oi at h
  split at h
  · rename_i q r
    obtain ⟨e4, h⟩ := am_if_some h
    cases h
    have e4 : am_sum r ≤ 8 := Nat.le_of_ble_eq_true e4
    have hW8 : ((r.map (am_v b ad)).map fun v => v.category).sum ≤ 8 := by rw [am_sum_v]; exact e4
    refine W.objInit (g := F0 m pc LS ((Value.ref q :: r).map (am_v b ad))) hx hb hown (hts _ hlk) (hts _ (am_good_in (List.mem_append_right _ z.1) rfl)) (hts _ (am_good_in (List.mem_append_right _ z.2) rfl)) rfl (by rw [hml]; exact hl.1.1) rfl hd (by omega) (by have := lv_room (pc := pc) (ls := LS) (rest := (Value.ref q :: r).map (am_v b ad)) (m := m) hW8; omega) ?_
    exact kb.2.2 ad H locs LS am_agr_rf hP hD hS hl
  · cases h
theorem am_ca_ok {i : Instr} {len : Nat} (hx : p.tables.exec = Jvm.exec) (hb : c.code = cc) (hml : c.maxLocals = nL) (hown : s.vm.findClass (am_onm o) = some m.cls) (hts : ∀ w ∈ am_good, w.before args s = true) (hI : am_Inv dC dI cA s) (hXt : am_Xt b A s) (hRf : d + 1 ≤ R.frames) (hRl : 41 * (d + 1) ≤ R.locals) (hcall : ∀ y as w q, call y as w = some q → am_wf w → am_ow y < 21 ∧ am_Sd l dC dI cA d y as w q)
    (hP : va_P (dC, dI) vwCl (am_ws cA ad w) H) (hD : va_D A (am_ws cA ad w)) (hS : va_S A s.heap H locs) (hA : ∀ q, s.heap.size ≤ q → A q) (hw : am_wf w) (hl : am_lr (am_v b ad) ls LS nL) (kb : am_kb p l e R s m args below meth c Q b ad nL dC dI cA A pc LS w.1.length t)
    (hd : decode cc pc = .ok (i, len)) (h : am_ca call o i len pc ls st w k n = some t) : W p l e R s m args below meth c H locs k n Q (F0 m pc LS (st.map (am_v b ad))) := by
  unfold am_ca at h
  split at h
  · obtain ⟨rfl, h⟩ := am_ck_some h
    split at h
    · rename_i hq
      have hq := am_lk_mem hq
      split at h
      · exact am_vc_ok hx hb hml hown hts hI hXt hRf hRl hcall hP hD hS hA hw hl kb hq (Or.inl ⟨rfl, rfl⟩) hd h
      · exact am_vc_ok hx hb hml hown hts hI hXt hRf hRl hcall hP hD hS hA hw hl kb hq (Or.inr ⟨rfl, rfl⟩) hd h
      · cases h
    · cases h
  · obtain ⟨rfl, h⟩ := am_ck_some h
    split at h
    · rename_i hq
      have hq := am_lk_mem hq
      split at h
      · exact am_sc_ok hx hb hml hown hts hI hXt hRf hRl hcall hP hD hS hA hw hl kb hq (Or.inl rfl) hd h
      · exact am_sc_ok hx hb hml hown hts hI hXt hRf hRl hcall hP hD hS hA hw hl kb hq (Or.inr rfl) hd h
      · cases h
    · cases h
  · obtain ⟨rfl, h⟩ := am_ck_some h
    split at h
    · rename_i hq
      have hq := am_lk_mem hq
      split at h
      · exact am_ic_ok hx hb hml hown hts hI hXt hRf hRl hcall hP hD hS hA hw hl kb hq (Or.inl rfl) hd h
      · exact am_ic_ok hx hb hml hown hts hI hXt hRf hRl hcall hP hD hS hA hw hl kb hq (Or.inr rfl) hd h
      · exact am_oi_ok hx hb hml hown hts hI hXt hRf hRl hcall hP hD hS hA hw hl kb hq hd h
      · cases h
    · cases h
  · cases h
end AMV
