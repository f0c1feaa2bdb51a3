/-! What is said of a call, and the tables' rows for it -/
theorem am_chunk {α : Type} {l : List α} {f : α → Bool} {z : Nat} (h1 : ((l.drop z).take 40).all f = true) (h2 : (l.drop (z + 40)).all f = true) : (l.drop z).all f = true := by
  rw [← List.take_append_drop 40 (l.drop z), List.all_append, h1, List.drop_drop, h2]
  rfl
theorem am_ca0 : ((am_mds0).drop 0).all (am_cok 0) = true := (am_chunk am_co0_0 rfl)
theorem am_ca1 : ((am_mds1).drop 0).all (am_cok 1) = true := (am_chunk am_co1_0 rfl)
theorem am_ca2 : ((am_mds2).drop 0).all (am_cok 2) = true := (am_chunk am_co2_0 rfl)
theorem am_ca3 : ((am_mds3).drop 0).all (am_cok 3) = true := (am_chunk am_co3_0 rfl)
theorem am_ca4 : ((am_mds4).drop 0).all (am_cok 4) = true := (am_chunk am_co4_0 rfl)
theorem am_ca5 : ((am_mds5).drop 0).all (am_cok 5) = true := (am_chunk am_co5_0 rfl)
theorem am_ca6 : ((am_mds6).drop 0).all (am_cok 6) = true := (am_chunk am_co6_0 rfl)
theorem am_ca7 : ((am_mds7).drop 0).all (am_cok 7) = true := (am_chunk am_co7_0 rfl)
theorem am_ca8 : ((am_mds8).drop 0).all (am_cok 8) = true := (am_chunk am_co8_0 rfl)
theorem am_ca9 : ((am_mds9).drop 0).all (am_cok 9) = true := (am_chunk am_co9_0 rfl)
theorem am_ca10 : ((am_mds10).drop 0).all (am_cok 10) = true := (am_chunk am_co10_0 rfl)
theorem am_ca11 : ((am_mds11).drop 0).all (am_cok 11) = true := (am_chunk am_co11_0 (am_chunk am_co11_40 rfl))
theorem am_ca12 : ((am_mds12).drop 0).all (am_cok 12) = true := (am_chunk am_co12_0 (am_chunk am_co12_40 (am_chunk am_co12_80 rfl)))
theorem am_ca13 : ((am_mds13).drop 0).all (am_cok 13) = true := (am_chunk am_co13_0 (am_chunk am_co13_40 (am_chunk am_co13_80 rfl)))
theorem am_ca14 : ((am_mds14).drop 0).all (am_cok 14) = true := (am_chunk am_co14_0 rfl)
theorem am_ca15 : ((am_mds15).drop 0).all (am_cok 15) = true := (am_chunk am_co15_0 rfl)
theorem am_ca16 : ((am_mds16).drop 0).all (am_cok 16) = true := (am_chunk am_co16_0 rfl)
theorem am_ca17 : ((am_mds17).drop 0).all (am_cok 17) = true := (am_chunk am_co17_0 rfl)
theorem am_ca18 : ((am_mds18).drop 0).all (am_cok 18) = true := (am_chunk am_co18_0 rfl)
theorem am_ca19 : ((am_mds19).drop 0).all (am_cok 19) = true := (am_chunk am_co19_0 rfl)
theorem am_ca20 : ((am_mds20).drop 0).all (am_cok 20) = true := (am_chunk am_co20_0 rfl)
theorem am_md_ok {o : Nat} {q : Nat × Nat × Nat × Nat × Nat × Nat × Nat} (h : q ∈ am_mds o) : am_cok o q = true := by
  unfold am_mds at h
  split at h
  · exact List.all_eq_true.mp am_ca0 q h
  · exact List.all_eq_true.mp am_ca1 q h
  · exact List.all_eq_true.mp am_ca2 q h
  · exact List.all_eq_true.mp am_ca3 q h
  · exact List.all_eq_true.mp am_ca4 q h
  · exact List.all_eq_true.mp am_ca5 q h
  · exact List.all_eq_true.mp am_ca6 q h
  · exact List.all_eq_true.mp am_ca7 q h
  · exact List.all_eq_true.mp am_ca8 q h
  · exact List.all_eq_true.mp am_ca9 q h
  · exact List.all_eq_true.mp am_ca10 q h
  · exact List.all_eq_true.mp am_ca11 q h
  · exact List.all_eq_true.mp am_ca12 q h
  · exact List.all_eq_true.mp am_ca13 q h
  · exact List.all_eq_true.mp am_ca14 q h
  · exact List.all_eq_true.mp am_ca15 q h
  · exact List.all_eq_true.mp am_ca16 q h
  · exact List.all_eq_true.mp am_ca17 q h
  · exact List.all_eq_true.mp am_ca18 q h
  · exact List.all_eq_true.mp am_ca19 q h
  · exact List.all_eq_true.mp am_ca20 q h
  · cases h
theorem am_mg_ok : ∀ L ∈ am_mg, ∀ q ∈ L, am_mkP q ∧ am_mok q = true := by
  intro L hL
  unfold am_mg at hL
  simp only [List.mem_cons, List.not_mem_nil, or_false] at hL
  rcases hL with rfl | rfl | rfl | rfl | rfl | rfl | rfl | rfl | rfl | rfl | rfl | rfl | rfl | rfl | rfl | rfl
  · exact fun q hq => ⟨am_mk0 q hq, List.all_eq_true.mp am_mo0 q hq⟩
  · exact fun q hq => ⟨am_mk1 q hq, List.all_eq_true.mp am_mo1 q hq⟩
  · exact fun q hq => ⟨am_mk2 q hq, List.all_eq_true.mp am_mo2 q hq⟩
  · exact fun q hq => ⟨am_mk3 q hq, List.all_eq_true.mp am_mo3 q hq⟩
  · exact fun q hq => ⟨am_mk4 q hq, List.all_eq_true.mp am_mo4 q hq⟩
  · exact fun q hq => ⟨am_mk5 q hq, List.all_eq_true.mp am_mo5 q hq⟩
  · exact fun q hq => ⟨am_mk6 q hq, List.all_eq_true.mp am_mo6 q hq⟩
  · exact fun q hq => ⟨am_mk7 q hq, List.all_eq_true.mp am_mo7 q hq⟩
  · exact fun q hq => ⟨am_mk8 q hq, List.all_eq_true.mp am_mo8 q hq⟩
  · exact fun q hq => ⟨am_mk9 q hq, List.all_eq_true.mp am_mo9 q hq⟩
  · exact fun q hq => ⟨am_mk10 q hq, List.all_eq_true.mp am_mo10 q hq⟩
  · exact fun q hq => ⟨am_mk11 q hq, List.all_eq_true.mp am_mo11 q hq⟩
  · exact fun q hq => ⟨am_mk12 q hq, List.all_eq_true.mp am_mo12 q hq⟩
  · exact fun q hq => ⟨am_mk13 q hq, List.all_eq_true.mp am_mo13 q hq⟩
  · exact fun q hq => ⟨am_mk14 q hq, List.all_eq_true.mp am_mo14 q hq⟩
  · exact fun q hq => ⟨am_mk15 q hq, List.all_eq_true.mp am_mo15 q hq⟩
theorem am_mt_in {y : Nat} (h : am_pc y ≠ 9999) : am_mkP (am_mt y) ∧ am_mok (am_mt y) = true := by
  unfold am_pc am_mt at h
  unfold am_mt
  cases hL : am_mg[y / 24]? with
  | none =>
    rw [hL] at h
    exact False.elim (by simp [am_m0] at h)
  | some L =>
    rw [hL] at h
    dsimp only [Option.getD_some] at h ⊢
    cases hq : L[y % 24]? with
    | none =>
      rw [hq] at h
      exact False.elim (by simp [am_m0] at h)
    | some q => exact am_mg_ok L (List.mem_of_getElem? hL) q (List.mem_of_getElem? hq)
theorem am_ini_ok : (List.range 21).all (fun o => decide (Cond.initialized (am_onm o) ∈ tables_1)) = true := by decide +kernel
theorem am_cw_good (q : am_M) : goodWord (am_cw q) = true := by
  unfold am_cw
  split <;> rfl
/-- a method's facts -/
theorem am_fact {y : Nat} (h : am_pc y ≠ 9999) : am_cw (am_mt y) ∈ am_good ∧ Cond.initialized (am_mn y).cls ∈ am_good ∧ (am_mn y).cls ≠ "java/lang/invoke/MethodHandle" ∧ (am_mn y).cls ≠ "java/lang/invoke/VarHandle" ∧ am_ml y ≤ 20 ∧ plainFor (am_mn y) = true ∧ am_onm (am_ow y) = (am_mn y).cls := by
  obtain ⟨h1, h2⟩ := am_mt_in h
  unfold am_mok at h2
  have h9 : (am_mt y).2.2.2.2.2.1 ≠ 9999 := h
  have h99 : ((am_mt y).2.2.2.2.2.1 == 9999) = false := by
    simp only [beq_eq_false_iff_ne]
    exact h9
  rw [h99] at h2
  simp only [Bool.false_or, Bool.and_eq_true, decide_eq_true_eq] at h2
  obtain ⟨⟨⟨⟨⟨g1, g2⟩, g3⟩, g4⟩, g5⟩, g6⟩ := h2
  have hi := of_decide_eq_true (List.all_eq_true.mp am_ini_ok (am_ow y) (List.mem_range.mpr g6))
  have e5 : am_onm (am_ow y) = (am_mn y).cls := g5
  rw [e5] at hi
  exact ⟨am_good_in (List.mem_append_right _ (h1 h9)) (am_cw_good _), am_good_in (List.mem_append_right _ hi) rfl, g1, g2, g3, g4, e5⟩
/-- a method's words -/
def am_wd (y : Nat) : List Cond := am_cw (am_mt y) :: am_good
theorem am_cw_0 {y : Nat} (h : am_hd y = []) : am_cw (am_mt y) = Cond.code (am_mn y) (am_by y) (am_ml y) (am_rt y) := by
  unfold am_cw
  rw [show (am_mt y).2.2.2.2.2.2 = [] from h]
  rfl
theorem am_cw_1 {y : Nat} {h1 : Nat × Nat × Nat × Nat} {t1 : List (Nat × Nat × Nat × Nat)} (h : am_hd y = h1 :: t1) : am_cw (am_mt y) = Cond.codeWith (am_mn y) (am_by y) (am_ml y) (am_rt y) (am_hd y) := by
  unfold am_cw
  rw [h, show (am_mt y).2.2.2.2.2.2 = h1 :: t1 from h]
  rfl
theorem am_goodIn {y' : Nat} (h : am_pc y' ≠ 9999) : GoodIn am_good (am_wd y') := by
  intro w hw
  rcases List.mem_cons.mp hw with rfl | hw
  · exact ⟨(am_fact h).1, good_of_word (am_cw_good _)⟩
  · exact ⟨hw, good_of_word (List.mem_filter.mp hw).2⟩
def am_Inv (dC : Nat → ClassId) (dI : Nat → Nat → Nat) (cA : Nat → ClassId) (U : State) : Prop :=
  va_K (dC, dI) vwCl (am_tys cA) U ∧ (∀ w ∈ am_nests, va_Nw w U) ∧ (∀ t p c, am_tp t = some (p, c) → va_AO (am_cl c).1 U) ∧ va_Nc "java/util/NoSuchElementException" "java/lang/IllegalArgumentException" U ∧ va_Nc "java/lang/IllegalArgumentException" "java/util/NoSuchElementException" U
theorem am_Inv.warm {dC : Nat → ClassId} {dI : Nat → Nat → Nat} {cA : Nat → ClassId} {s U : State} (hW : s.WarmedH U.vm) (h : am_Inv dC dI cA s) : am_Inv dC dI cA U := by
  refine ⟨va_K.moved hW.alike h.1, fun w hw => ?_, fun t p c e => (h.2.2.1 t p c e).moved hW.alike, h.2.2.2.1.moved hW.alike, h.2.2.2.2.moved hW.alike⟩
  have h1 := h.2.1 w hw
  have h2 := (List.mem_filter.mp hw).2
  cases w <;> first | cases h2 | skip
  · exact va_Nw.warmM hW h1
  all_goals first | exact va_Nw.warmF hW h1 | exact va_Nw.warmC hW h1 | exact va_Nw.warmD hW h1
theorem am_Inv.same {dC : Nat → ClassId} {dI : Nat → Nat → Nat} {cA : Nat → ClassId} {s U : State} (hv : s.vm = U.vm) (h : am_Inv dC dI cA s) : am_Inv dC dI cA U := by
  have ha : s.vm.Alike U.vm := by rw [hv]; exact Vm.Alike.refl _
  refine ⟨va_K.moved ha h.1, fun w hw => ?_, fun t p c e => (h.2.2.1 t p c e).moved ha, h.2.2.2.1.moved ha, h.2.2.2.2.moved ha⟩
  have h1 := h.2.1 w hw
  have h2 := (List.mem_filter.mp hw).2
  refine va_Nw.same ?_ hv h1
  cases w <;> first | (cases h2; done) | rfl
/-- a text constant and its bytes, at their addresses -/
def am_Xc (b : Nat → Option Nat) (A : Nat → Prop) (U : State) (i : Nat) : Prop := ∃ a t : Nat, b (i + 2) = some a ∧ b (i + 102) = some t ∧ va_O "java/lang/String" a A U U.heap ∧ va_OF "java/lang/String" "coder" "B" (.int 0) a A U U.heap ∧ va_OF "java/lang/String" "value" "[B" (.ref t) a A U U.heap ∧ va_T .byte t (am_sb i).length (fun j => .int ((am_sb i).getD j 0)) A U U.heap
def am_Xr (b : Nat → Option Nat) (U : State) : Prop := ∀ (o j : Nat) (q : Nat × Nat), am_lk (am_sts o) j = some q → ∃ a : Nat, b (q.1 + 2) = some a ∧ vk_R (am_onm o) j (am_stx q.1) a U
/-- what stays of the heap outside the world: the statics that a throw reads, text constants -/
def am_Xt (b : Nat → Option Nat) (A : Nat → Prop) (U : State) : Prop :=
  vx_Zq Bundle.tN "UNASSIGNED_STACK" Bundle.steD A U U.heap ∧ vx_Zq Bundle.tN "SUPPRESSED_SENTINEL" Bundle.listD A U U.heap ∧ va_Z "java/lang/String" "COMPACT_STRINGS" "Z" (.int 1) A U U.heap ∧ va_Z "jdk/internal/util/Preconditions" "SIOOBE_FORMATTER" "Ljava/util/function/BiFunction;" (va_rf (b 200)) A U U.heap ∧ (∀ i, i < 21 → am_Xc b A U i) ∧ am_Xr b U
theorem am_Xt.to {b : Nat → Option Nat} {A B : Nat → Prop} {s U : State} (hvm : s.vm.Alike U.vm) (hR : ∀ own k tx a, vk_R own k tx a s → vk_R own k tx a U) (hh : ∀ a : Nat, a < s.heap.size → ¬ A a → U.heap[a]? = s.heap[a]?) (hAB : ∀ q, B q → A q) (h : am_Xt b A s) : am_Xt b B U := by
  obtain ⟨h1, h2, h3, h4, h5, h6⟩ := h
  refine ⟨((h1.moved hvm).kept hh).narrow hAB, ((h2.moved hvm).kept hh).narrow hAB, ((h3.moved hvm).kept hh).narrow hAB, ((h4.moved hvm).kept hh).narrow hAB, fun i hi => ?_, fun o j q e => ?_⟩
  · obtain ⟨a, t, e1, e2, g1, g2, g3, g4⟩ := h5 i hi
    exact ⟨a, t, e1, e2, ((g1.moved hvm).kept hh).narrow hAB, ((g2.moved hvm).kept hh).narrow hAB, ((g3.moved hvm).kept hh).narrow hAB, ((g4.moved hvm).kept hh).narrow hAB⟩
  · obtain ⟨a, e1, g⟩ := h6 o j q e
    exact ⟨a, e1, hR _ _ _ _ g⟩
theorem am_Xt.b {b b' : Nat → Option Nat} {A : Nat → Prop} {s : State} (hb : ∀ i, 2 ≤ i → b' i = b i) (h : am_Xt b A s) : am_Xt b' A s := by
  obtain ⟨h1, h2, h3, h4, h5, h6⟩ := h
  refine ⟨h1, h2, h3, by rw [hb 200 (by omega)]; exact h4, fun i hi => ?_, fun o j q e => ?_⟩
  · obtain ⟨a, t, e1, e2, g⟩ := h5 i hi
    exact ⟨a, t, by rw [hb _ (by omega)]; exact e1, by rw [hb _ (by omega)]; exact e2, g⟩
  · obtain ⟨a, e1, g⟩ := h6 o j q e
    exact ⟨a, by rw [hb _ (by omega)]; exact e1, g⟩
def am_xn (E : Nat) : String := match E with
  | 0 => "java/util/NoSuchElementException"
  | _ => "java/lang/IllegalArgumentException"
def am_Pre (dC : Nat → ClassId) (dI : Nat → Nat → Nat) (cA : Nat → ClassId) (b : Nat → Option Nat) (ad : Nat → Nat) (w : am_W) (sz : Nat) (args : List Value) : Array Value → State → Prop :=
  va_Pc (args.map (am_v b ad)) (fun U => U.heap.size = sz ∧ va_P (dC, dI) vwCl (am_ws cA ad w) U.heap ∧ va_D (fun _ => True) (am_ws cA ad w) ∧ am_Inv dC dI cA U ∧ am_Xt b (va_A (am_ws cA ad w) sz) U)
def am_aft (dC : Nat → ClassId) (dI : Nat → Nat → Nat) (cA : Nat → ClassId) (ad : Nat → Nat) (w : am_W) (A : Nat → Prop) (w' : am_W) (ad' : Nat → Nat) (st t : State) : Prop :=
  (am_agr w.1.length w'.1.length ad ad' ∧ va_P (dC, dI) vwCl (am_ws cA ad' w') t.heap ∧ va_D A (am_ws cA ad' w')) ∧ va_F A st t
def am_Qc (dC : Nat → ClassId) (dI : Nat → Nat → Nat) (cA : Nat → ClassId) (b : Nat → Option Nat) (ad : Nat → Nat) (w : am_W) (A : Nat → Prop) (q : am_O) : Array Value → State → Outcome → State → Prop := match q.1 with
  | .inl v => fun _ st oc t => ∃ ad', oc = .returned (v.map (am_v b ad')) ∧ am_aft dC dI cA ad w A q.2.1 ad' st t
  | .inr _ => fun _ _ _ _ => False
def am_XC (dC : Nat → ClassId) (dI : Nat → Nat → Nat) (cA : Nat → ClassId) (ad : Nat → Nat) (w : am_W) (A : Nat → Prop) (q : am_O) : String → State → State → Prop := match q.1 with
  | .inl _ => fun _ _ _ => False
  | .inr E => fun E' st t => E' = am_xn E ∧ ∃ ad', am_aft dC dI cA ad w A q.2.1 ad' st t
def am_room (d k n : Nat) : Room := { frames := d, cells := k, slots := n, locals := 41 * d }
/-- what is said of a call -/
def am_Sd (l : Launch) (dC : Nat → ClassId) (dI : Nat → Nat → Nat) (cA : Nat → ClassId) (d y : Nat) (args : List Value) (w : am_W) (q : am_O) : Prop :=
  ∀ (b : Nat → Option Nat) (ad : Nat → Nat) (sz : Nat), vx_Met l (am_mn y) (am_wd y) (am_room d q.2.2.1 q.2.2.2) (am_Pre dC dI cA b ad w sz args) (am_Qc dC dI cA b ad w (va_A (am_ws cA ad w) sz) q) (am_XC dC dI cA ad w (va_A (am_ws cA ad w) sz) q) q.2.2.1 q.2.2.2 (va_A (am_ws cA ad w) sz)
theorem am_blind {dC : Nat → ClassId} {dI : Nat → Nat → Nat} {cA : Nat → ClassId} {b : Nat → Option Nat} {ad : Nat → Nat} {w : am_W} {sz : Nat} {args : List Value} : FrameBlind (am_Pre dC dI cA b ad w sz args) := by
  intro a U g mk h
  obtain ⟨h1, h2, h3, h4, h5, h6⟩ := h
  exact ⟨h1, h2, h3, h4, am_Inv.same (s := U) (U := U.calling g mk a) rfl h5, am_Xt.to (s := U) (U := U.calling g mk a) (Vm.Alike.refl U.vm) (fun _ _ _ _ h => vk_R.same (u := U) (U := U.calling g mk a) rfl h) (fun _ _ _ => rfl) (fun _ h => h) h6⟩
theorem am_toMet {l : Launch} {y : MethodName} {ws : List Cond} {rm : Room} {Pc : Array Value → State → Prop} {Qc : Array Value → State → Outcome → State → Prop} {mc ms : Nat} {free : Addr → Prop} (h : vx_Met l y ws rm Pc Qc (fun _ _ _ => False) mc ms free) : Met l y ws rm Pc Qc mc ms free :=
  MetFree.mono h (fun _ _ h => h) (fun _ _ _ _ _ h => h) (fun a s o t _ h => by
    rcases h with h | ⟨q, _, E, ce, L, hx, _⟩
    · exact h
    · cases hx)
theorem am_stk {V : Value → Value} {st r : List Value} {na : Nat} (h : st.drop na = r) : st.map V = (((st.take na).reverse).map V).reverse ++ r.map V := by
  rw [← h, List.map_reverse, List.reverse_reverse, ← List.map_append, List.take_append_drop]
theorem am_sum_v {b : Nat → Option Nat} {ad : Nat → Nat} {r : List Value} : ((r.map (am_v b ad)).map fun v => v.category).sum = am_sum r := by
  unfold am_sum
  rw [List.map_map]
  congr 1
  apply List.map_congr_left
  intro v _
  exact am_v_cat b ad v

