/-! What the abstract machine comes to, its fuel hidden; a rule for each instruction -/
/-- from a state of method y's frame the machine comes to an end with P -/
def am_go (sc : Option (Nat × (Nat → Int32))) (d y : Nat) (S : am_S) (P : am_O → Prop) : Prop := ∃ (N : Nat) (q : am_O), P q ∧ ∀ M K : Nat, N ≤ M → N ≤ K → am_run sc (am_call M d) (d + 1) y K S = some q
/-- method y, called, comes to an outcome with P -/
def am_mth (d y : Nat) (as : List Value) (w : am_W) (P : am_O → Prop) : Prop := ∃ (N : Nat) (q : am_O), P q ∧ ∀ M : Nat, N ≤ M → am_call M d y as w = some q
theorem am_mth.mono {d y : Nat} {as : List Value} {w : am_W} {P Q : am_O → Prop} (h : am_mth d y as w P) (k : ∀ q, P q → Q q) : am_mth d y as w Q := by
  obtain ⟨N, q, h1, h2⟩ := h
  exact ⟨N, q, k q h1, h2⟩
theorem am_go.mono {sc : Option (Nat × (Nat → Int32))} {d y : Nat} {S : am_S} {P Q : am_O → Prop} (h : am_go sc d y S P) (k : ∀ q, P q → Q q) : am_go sc d y S Q := by
  obtain ⟨N, q, h1, h2⟩ := h
  exact ⟨N, q, k q h1, h2⟩
theorem am_mth_of {d y : Nat} {as : List Value} {w : am_W} {P : am_O → Prop} (h1 : Nat.beq (am_pc y) 9999 = false) (h2 : Nat.ble (am_lay as).length (am_ml y) = true) (h : am_go none d y (0, am_ent y as, [], w, 0, 0) P) : am_mth (d + 1) y as w P := by
  obtain ⟨N, q, g1, g2⟩ := h
  refine ⟨N, q, g1, fun M hM => ?_⟩
  show am_if _ _ = _
  rw [h1, h2]
  exact g2 M M hM hM
section AMG
variable {sc : Option (Nat × (Nat → Int32))} {d y : Nat} {P : am_O → Prop}
theorem am_go_st {S S' : am_S} (h : ∀ call : am_C, am_st2 sc call (d + 1) y S = some (.inl S')) (kk : am_go sc d y S' P) : am_go sc d y S P := by
  obtain ⟨N, q, g1, g2⟩ := kk
  refine ⟨N + 1, q, g1, fun M K hM hK => ?_⟩
  obtain ⟨K', rfl⟩ : ∃ K', K = K' + 1 := ⟨K - 1, by omega⟩
  unfold am_run
  rw [h]
  exact g2 M K' (by omega) (by omega)
theorem am_go_end {S : am_S} {q : am_O} (h : ∀ call : am_C, am_st2 sc call (d + 1) y S = some (.inr q)) (kk : P q) : am_go sc d y S P := by
  refine ⟨1, q, kk, fun M K hM hK => ?_⟩
  obtain ⟨K', rfl⟩ : ∃ K', K = K' + 1 := ⟨K - 1, by omega⟩
  unfold am_run
  rw [h]
variable {pc pc' len k n : Nat} {i : Instr} {ls ls' : am_L} {st st' : List Value} {w : am_W}
theorem am_st2_of {call : am_C} {S S' : am_S} (h : am_step sc call (d + 1) y S = some (.inl S')) : am_st2 sc call (d + 1) y S = some (.inl S') := by
  unfold am_st2
  rw [h]
theorem am_go_xo (hd : decode (am_by y) pc = .ok (i, len)) (h : am_xo sc (am_ow y) i len pc ls st = some (pc', ls', st')) (kk : am_go sc d y (pc', ls', st', w, k, n) P) : am_go sc d y (pc, ls, st, w, k, n) P := by
  refine am_go_st (fun call => am_st2_of ?_) kk
  unfold am_step
  rw [hd]
  dsimp only
  rw [h]
theorem am_go_pu (hd : decode (am_by y) pc = .ok (i, len)) (h0 : am_xo sc (am_ow y) i len pc ls st = none) (hc : am_cls i = 0) (h : am_pu (am_ow y) i len pc ls st = some (pc', ls', st')) (kk : am_go sc d y (pc', ls', st', w, k, n) P) : am_go sc d y (pc, ls, st, w, k, n) P := by
  refine am_go_st (fun call => am_st2_of ?_) kk
  unfold am_step
  rw [hd]
  dsimp only
  rw [h0]
  dsimp only
  unfold am_s0
  rw [hc]
  dsimp only
  rw [h]
  rfl
theorem am_go_he {S' : am_S} (hd : decode (am_by y) pc = .ok (i, len)) (h0 : am_xo sc (am_ow y) i len pc ls st = none) (hc : am_cls i = 1) (h : am_he (am_ow y) (am_ini y) i len pc ls st w k n = some S') (kk : am_go sc d y S' P) : am_go sc d y (pc, ls, st, w, k, n) P := by
  refine am_go_st (fun call => am_st2_of ?_) kk
  unfold am_step
  rw [hd]
  dsimp only
  rw [h0]
  dsimp only
  unfold am_s0
  rw [hc]
  dsimp only
  rw [h]
  rfl
theorem am_go_ed {v : Option Value} (hd : decode (am_by y) pc = .ok (i, len)) (h0 : am_xo sc (am_ow y) i len pc ls st = none) (hc : am_cls i = 3) (h : am_ed y i len st w k n = some (.inl v, w, k, n)) (kk : P (.inl v, w, k, n)) : am_go sc d y (pc, ls, st, w, k, n) P := by
  refine am_go_end (fun call => ?_) kk
  unfold am_st2 am_step
  rw [hd]
  dsimp only
  rw [h0]
  dsimp only
  unfold am_s0
  rw [hc]
  dsimp only
  rw [h]
  rfl
theorem am_go_th {E : Nat} (hd : decode (am_by y) pc = .ok (i, len)) (h0 : am_xo sc (am_ow y) i len pc ls st = none) (hc : am_cls i = 1) (h : am_he (am_ow y) (am_ini y) i len pc ls st w k n = none) (ht : am_th y pc = some E) (h6 : 5 ≤ d) (hs : Nat.ble (am_sum st) 8 = true) (hh : am_hd y = []) (kk : P (.inr E, w, k + 1, n + 6)) : am_go sc d y (pc, ls, st, w, k, n) P := by
  refine am_go_end (fun call => ?_) kk
  have e6 : Nat.ble 6 (d + 1) = true := Nat.ble_eq.mpr (by omega)
  unfold am_st2 am_step
  rw [hd]
  dsimp only
  rw [h0]
  dsimp only
  unfold am_s0
  rw [hc]
  dsimp only
  rw [h]
  dsimp only
  rw [ht]
  dsimp only
  rw [e6, hs, hh]
  unfold am_cat
  rw [hh]
  rfl
/-- what is to be shown behind a call, of its outcome -/
def am_af (sc : Option (Nat × (Nat → Int32))) (d y : Nat) (pc : Nat) (ls : am_L) (st r : List Value) (w : am_W) (k n : Nat) (thr : Bool) (P : am_O → Prop) (q : am_O) : Prop := match q.1 with
  | .inl v => (Nat.beq q.2.1.1.length w.1.length || am_vld w.1.length ls r) = true ∧ am_go sc d y (pc + 3, ls, v.toList ++ r, q.2.1, k + q.2.2.1, n + q.2.2.2) P
  | .inr E => thr = true ∧ match am_cat y (pc, ls, st, w, k, n) E q.2.1 (k + q.2.2.1) (n + q.2.2.2) with
    | some (.inl S') => am_go sc d y S' P
    | some (.inr q') => P q'
    | none => False
theorem am_go_ca {y' : Nat} {as r : List Value} {thr : Bool} (hd : decode (am_by y) pc = .ok (i, len)) (h0 : am_xo sc (am_ow y) i len pc ls st = none) (hc : am_cls i = 2) (h : ∀ call : am_C, am_ca call (am_ow y) i len pc ls st w k n = am_rs pc ls r w k n thr (call y' as w)) (hM : am_mth d y' as w (am_af sc d y pc ls st r w k n thr P)) : am_go sc d y (pc, ls, st, w, k, n) P := by
  obtain ⟨N, q, g1, g2⟩ := hM
  have est : ∀ M, N ≤ M → am_step sc (am_call M d) (d + 1) y (pc, ls, st, w, k, n) = am_rs pc ls r w k n thr (some q) := by
    intro M hM
    unfold am_step
    rw [hd]
    dsimp only
    rw [h0]
    dsimp only
    unfold am_s0
    rw [hc]
    dsimp only
    rw [h, g2 M hM]
    rfl
  obtain ⟨q1, w', k', n'⟩ := q
  cases q1 with
  | inl v =>
    obtain ⟨e1, e2⟩ := g1
    obtain ⟨N2, q2, g3, g4⟩ := e2
    refine ⟨N + N2 + 1, q2, g3, fun M K hM hK => ?_⟩
    obtain ⟨K', rfl⟩ : ∃ K', K = K' + 1 := ⟨K - 1, by omega⟩
    have e3 : am_step sc (am_call M d) (d + 1) y (pc, ls, st, w, k, n) = some (.inl (pc + 3, ls, v.toList ++ r, w', k + k', n + n')) := by
      rw [est M (by omega)]
      unfold am_rs
      dsimp only at e1 ⊢
      rw [e1]
      rfl
    unfold am_run am_st2
    rw [e3]
    exact g4 M K' (by omega) (by omega)
  | inr E =>
    obtain ⟨e1, e2⟩ := g1
    subst e1
    have e3 : ∀ M, N ≤ M → am_step sc (am_call M d) (d + 1) y (pc, ls, st, w, k, n) = some (.inr (.inr E, w', k + k', n + n')) := by
      intro M hM
      rw [est M hM]
      rfl
    dsimp only at e2
    split at e2
    · rename_i S' hS
      obtain ⟨N2, q2, g3, g4⟩ := e2
      refine ⟨N + N2 + 1, q2, g3, fun M K hM hK => ?_⟩
      obtain ⟨K', rfl⟩ : ∃ K', K = K' + 1 := ⟨K - 1, by omega⟩
      unfold am_run am_st2
      rw [e3 M (by omega)]
      dsimp only
      rw [hS]
      exact g4 M K' (by omega) (by omega)
    · rename_i q' hS
      refine ⟨N + 1, q', e2, fun M K hM hK => ?_⟩
      obtain ⟨K', rfl⟩ : ∃ K', K = K' + 1 := ⟨K - 1, by omega⟩
      unfold am_run am_st2
      rw [e3 M (by omega)]
      dsimp only
      rw [hS]
    · exact e2.elim
/-! calls, by their kinds -/
variable {j y' na p1 p2 p3 : Nat}
theorem am_s_static {kd : Nat} (hd : decode (am_by y) pc = .ok (.invokestatic j, 3)) (hm : am_lk (am_mds (am_ow y)) j = some (y', na, kd, p1, p2, p3)) (hk : (Nat.beq kd 2 || Nat.beq kd 3 || Nat.beq kd 8) = true) (hr : am_rm na st (st.drop na) = true) (hM : am_mth d y' (st.take na).reverse w (am_af sc d y pc ls st (st.drop na) w k n false P)) : am_go sc d y (pc, ls, st, w, k, n) P := by
  refine am_go_ca hd rfl rfl (fun call => ?_) hM
  show am_ck 3 3 (match am_lk (am_mds (am_ow y)) j with | some (y', na, kd, _) => _ | none => none) = _
  rw [hm]
  simp only [Bool.or_eq_true] at hk
  rcases hk with (hk | hk) | hk
  all_goals
    have hk := Nat.eq_of_beq_eq_true hk
    subst hk
    show am_sc call pc ls st w k n y' na false = _
    unfold am_sc
    rw [hr]
    rfl
theorem am_s_virtual {kd a c : Nat} {r : List Value} (thr : Bool) (hd : decode (am_by y) pc = .ok (.invokevirtual j, 3)) (hm : am_lk (am_mds (am_ow y)) j = some (y', na, kd, p1, p2, p3)) (hk : (kd = 0 ∧ thr = true) ∨ (kd = 1 ∧ thr = false)) (hst : st.drop na = .ref a :: r) (ha : w.1[a]? = some (.inl c)) (hr : (Nat.beq c (am_ow y') && Nat.blt c 13 && am_rm na st r) = true) (hM : am_mth d y' (.ref a :: (st.take na).reverse) w (am_af sc d y pc ls st r w k n thr P)) : am_go sc d y (pc, ls, st, w, k, n) P := by
  refine am_go_ca hd rfl rfl (fun call => ?_) hM
  show am_ck 3 3 (match am_lk (am_mds (am_ow y)) j with | some (y', na, kd, _) => _ | none => none) = _
  rw [hm]
  have e : ∀ b, am_vc call pc ls st w k n y' na b = am_rs pc ls r w k n b (call y' (.ref a :: (st.take na).reverse) w) := by
    intro b
    unfold am_vc
    rw [hst]
    dsimp only
    rw [ha]
    dsimp only
    rw [hr]
    rfl
  rcases hk with ⟨rfl, rfl⟩ | ⟨rfl, rfl⟩
  · exact e true
  · exact e false
theorem am_s_virtualT {kd a : Nat} {r : List Value} (hd : decode (am_by y) pc = .ok (.invokevirtual j, 3)) (hm : am_lk (am_mds (am_ow y)) j = some (y', na, kd, p1, p2, p3)) (hk : (Nat.beq kd 0 || Nat.beq kd 1) = true) (hst : st.drop na = .retAddr a :: r) (hr : (am_strq a && Nat.beq (am_ow y') 18 && am_rm na st r) = true) (hM : am_mth d y' (.retAddr a :: (st.take na).reverse) w (am_af sc d y pc ls st r w k n false P)) : am_go sc d y (pc, ls, st, w, k, n) P := by
  refine am_go_ca hd rfl rfl (fun call => ?_) hM
  show am_ck 3 3 (match am_lk (am_mds (am_ow y)) j with | some (y', na, kd, _) => _ | none => none) = _
  rw [hm]
  have e : ∀ b, am_vc call pc ls st w k n y' na b = am_rs pc ls r w k n false (call y' (.retAddr a :: (st.take na).reverse) w) := by
    intro b
    unfold am_vc
    rw [hst]
    dsimp only
    rw [hr]
    rfl
  simp only [Bool.or_eq_true] at hk
  rcases hk with hk | hk
  all_goals
    have hk := Nat.eq_of_beq_eq_true hk
    subst hk
    exact e _
theorem am_s_init {kd a : Nat} {r : List Value} (hd : decode (am_by y) pc = .ok (.invokespecial j, 3)) (hm : am_lk (am_mds (am_ow y)) j = some (y', na, kd, p1, p2, p3)) (hk : (Nat.beq kd 4 || Nat.beq kd 5) = true) (hst : st.drop na = .ref a :: r) (hr : (am_rm na st r && am_rv y') = true) (hM : am_mth d y' (.ref a :: (st.take na).reverse) w (am_af sc d y pc ls st r w k n false P)) : am_go sc d y (pc, ls, st, w, k, n) P := by
  refine am_go_ca hd rfl rfl (fun call => ?_) hM
  show am_ck 3 3 (match am_lk (am_mds (am_ow y)) j with | some (y', na, kd, _) => _ | none => none) = _
  rw [hm]
  have e : am_ic call pc ls st w k n y' na = am_rs pc ls r w k n false (call y' (.ref a :: (st.take na).reverse) w) := by
    unfold am_ic
    rw [hst]
    dsimp only
    rw [hr]
    rfl
  simp only [Bool.or_eq_true] at hk
  rcases hk with hk | hk
  all_goals
    have hk := Nat.eq_of_beq_eq_true hk
    subst hk
    exact e
theorem am_go_c0 {S' : am_S} (hd : decode (am_by y) pc = .ok (i, len)) (h0 : am_xo sc (am_ow y) i len pc ls st = none) (hc : am_cls i = 2) (h : ∀ call : am_C, am_ca call (am_ow y) i len pc ls st w k n = some (.inl S')) (kk : am_go sc d y S' P) : am_go sc d y (pc, ls, st, w, k, n) P := by
  refine am_go_st (fun call => am_st2_of ?_) kk
  unfold am_step
  rw [hd]
  dsimp only
  rw [h0]
  dsimp only
  unfold am_s0
  rw [hc]
  exact h call
theorem am_s_objinit {a : Nat} (hd : decode (am_by y) pc = .ok (.invokespecial j, 3)) (hm : am_lk (am_mds (am_ow y)) j = some (y', na, 6, p1, p2, p3)) (hr : Nat.ble (am_sum st) 8 = true) (kk : am_go sc d y (pc + 3, ls, st, w, k, n) P) : am_go sc d y (pc, ls, .ref a :: st, w, k, n) P := by
  refine am_go_c0 hd rfl rfl (fun call => ?_) kk
  show am_ck 3 3 (match am_lk (am_mds (am_ow y)) j with | some (y', na, kd, _) => _ | none => none) = _
  rw [hm]
  show am_oi pc ls (.ref a :: st) w k n = _
  unfold am_oi
  dsimp only
  rw [hr]
  rfl
theorem am_s_copy {a0 a1 L0 L1 : Nat} {L dp sp : Int32} (hd : decode (am_by y) pc = .ok (.invokestatic j, 3)) (hm : am_lk (am_mds (am_ow y)) j = some (y', na, 7, p1, p2, p3)) (h0 : w.1[a0]? = some (.inr (0, L0))) (h1 : w.1[a1]? = some (.inr (0, L1))) (g1 : ¬ sp < 0) (g2 : ¬ dp < 0) (g3 : ¬ L < 0) (g4 : sp.toNatClampNeg + L.toNatClampNeg ≤ L0) (g5 : dp.toNatClampNeg + L.toNatClampNeg ≤ L1) (hr : Nat.ble (am_sum st) 8 = true)
    (kk : am_go sc d y (pc + 3, ls, st, (w.1, am_cp w.2.1 a1 (va_cpy (w.2.1 a0) (w.2.1 a1) sp.toNatClampNeg dp.toNatClampNeg L.toNatClampNeg), w.2.2.1, w.2.2.2), k, n) P) : am_go sc d y (pc, ls, .int L :: .int dp :: .ref a1 :: .int sp :: .ref a0 :: st, w, k, n) P := by
  refine am_go_c0 hd rfl rfl (fun call => ?_) kk
  show am_ck 3 3 (match am_lk (am_mds (am_ow y)) j with | some (y', na, kd, _) => _ | none => none) = _
  rw [hm]
  show am_ac pc ls (.int L :: .int dp :: .ref a1 :: .int sp :: .ref a0 :: st) w k n = _
  unfold am_ac
  simp only [h0, h1]
  simp only [g1, g2, g3, g4, g5, hr, not_false_eq_true, decide_true, Bool.and_self]
  rfl
end AMG
