/-! Ends, runs, methods: the machine does what the abstract one does -/
theorem am_ofW {l : Launch} {y : MethodName} {ws ws' : List Cond} {rm : Room} {Pc : Array Value → State → Prop} {Qc : Array Value → State → Outcome → State → Prop} {XC : String → State → State → Prop} {mc ms : Nat} {free : Addr → Prop} {cc : ByteArray} {maxL : Nat} {ret : Option FieldType}
    (hy : plainFor y = true) (hw : ws = Cond.code y cc maxL ret :: ws')
    (body : ∀ p e s m args below meth c s₁, BodyLoose p l y (headSpec ws rm) cc maxL ret e s m args below meth c s₁ → c.maxLocals = maxL → (∀ x ∈ c.exceptionTable.toList, False) → Pc args s →
      W p l e (headSpec ws rm).room s m args below meth c s.heap [] 0 0 (vx_MQ below Qc XC args s mc ms free) (entryFrame m args maxL)) : vx_Met l y ws rm Pc Qc XC mc ms free := by
  refine MetFree.of_bodySF (code := cc) (maxLocals := maxL) (ret := ret) hy ?_ ?_
  · intro args s m h hn
    obtain ⟨meth, c, h1, h2, h3, h4, h5, h6, -, -⟩ := Cond.code_spec hn (atoms_spec (ws := ws) h _ (by rw [hw]; exact List.mem_cons_self))
    exact ⟨meth, c, h1, h2, h3, h4, h5, h6⟩
  · intro p e s m args below meth c s₁ B hml hP _
    have hh0 : s₁.heap = s.heap := by rw [B.state]; rfl
    have ht : ∀ x ∈ c.exceptionTable.toList, False := by
      obtain ⟨meth9, c9, h1, h2, -, -, -, -, h7, -⟩ := Cond.code_spec B.named (atoms_spec (ws := ws) B.pre _ (by rw [hw]; exact List.mem_cons_self))
      cases Option.some.inj (h1.symm.trans B.method)
      cases Option.some.inj (h2.symm.trans (Stand.of_body B).code)
      intro x hx
      rw [Array.isEmpty_iff.mp h7] at hx
      cases hx
    obtain ⟨t, a1, o, b1, b2, b3⟩ := body p e s m args below meth c s₁ B hml ht hP s₁ hh0 (Stand.of_body B)
    exact ⟨t, o, a1, b1, b2, b3⟩
theorem am_lay_two {v : Value} {r : List Value} (h : v.category = 2) : am_lay (v :: r) = some v :: none :: am_lay r := by
  rw [am_lay, h]
theorem am_lay_one {v : Value} {r : List Value} (h : ¬ v.category = 2) : am_lay (v :: r) = some v :: am_lay r := by
  have hb : Nat.beq v.category 2 = false := by
    cases hq : Nat.beq v.category 2 with
    | false => rfl
    | true => exact absurd (Nat.eq_of_beq_eq_true hq) h
  rw [am_lay, hb]
theorem am_lay_len (b : Nat → Option Nat) (ad : Nat → Nat) : ∀ as : List Value, (lg_sl (as.map (am_v b ad))).length = (am_lay as).length
  | [] => rfl
  | v :: r => by
    have ih := am_lay_len b ad r
    unfold lg_sl at ih ⊢
    rw [List.map_cons, List.flatMap_cons, List.length_append, ih, am_v_cat]
    by_cases h : v.category = 2
    · rw [if_pos h, am_lay_two h]
      simp
      omega
    · rw [if_neg h, am_lay_one h]
      simp
      omega
theorem am_lay_al (b : Nat → Option Nat) (ad : Nat → Nat) (k : Nat) : ∀ (as : List Value) (i : Nat), am_al (am_v b ad) i (am_lay as ++ List.replicate k none) = lv_args i (as.map (am_v b ad))
  | [], i => by
    show am_al (am_v b ad) i (List.replicate k none) = []
    induction k generalizing i with
    | zero => rfl
    | succ k ih => rw [List.replicate_succ, am_al, ih]
  | v :: r, i => by
    rw [List.map_cons, lv_args, am_v_cat]
    by_cases h : v.category = 2
    · rw [if_pos h, am_lay_two h]
      show (i, am_v b ad v) :: am_al (am_v b ad) (i + 1 + 1) (am_lay r ++ List.replicate k none) = _
      rw [am_lay_al b ad k r]
    · rw [if_neg h, am_lay_one h]
      show (i, am_v b ad v) :: am_al (am_v b ad) (i + 1) (am_lay r ++ List.replicate k none) = _
      rw [am_lay_al b ad k r]
section AME
variable {p : Program} {l : Launch} {e : Env} {R : Room} {s : State} {m : MethodId} {args : Array Value} {below : List Frame} {meth : Method} {c : Code} {H : Heap} {locs : List Loc}
variable {pc : Nat} {b : Nat → Option Nat} {ad ad0 : Nat → Nat} {nL : Nat} {dC : Nat → ClassId} {dI : Nat → Nat → Nat} {cA : Nat → ClassId} {A : Nat → Prop} {ls : am_L} {st : List Value} {w w0 : am_W} {k n d : Nat} {LS : Array Slot} {y : Nat} {call : am_C} {q : am_O}
theorem am_ed_ok {i : Instr} {len : Nat} (hx : p.tables.exec = Jvm.exec) (hb : c.code = am_by y) (hr : meth.sig.returnType = am_rt y) (hlocks : meth.locks = false)
    (hP : va_P (dC, dI) vwCl (am_ws cA ad w) H) (hD : va_D A (am_ws cA ad w)) (hS : va_S A s.heap H locs) (ha : am_agr w0.1.length w.1.length ad0 ad)
    (hd : decode (am_by y) pc = .ok (i, len)) (h : am_ed y i len st w k n = some q) : W p l e R s m args below meth c H locs k n (vx_MQ below (am_Qc dC dI cA b ad0 w0 A q) (am_XC dC dI cA ad0 w0 A q) args s q.2.2.1 q.2.2.2 A) (F0 m pc LS (st.map (am_v b ad))) := by
  have aft : ∀ t : State, t.heap = H → am_aft dC dI cA ad0 w0 A w ad s t := fun t ht => ⟨⟨ha, by rw [ht]; exact hP, hD⟩, hS.F ht⟩
  unfold am_ed at h
  split at h
  · obtain ⟨rfl, h⟩ := am_ck_some h
    split at h
    · rename_i x _
      obtain ⟨h1, h⟩ := am_if_some h
      cases h
      unfold am_rr at h1
      split at h1
      · rename_i ty hty
        have hn : narrow ty (.int x) = .int x := by
          unfold am_rk at h1
          split at h1
          · rfl
          · simp only [Bool.or_eq_true, decide_eq_true_eq] at h1
            rcases h1 with rfl | rfl <;> rfl
          · cases h1
        exact vx_ret (W.zret (v := x) hx hb (by rw [hr]; exact hty) hn (fun t ht _ => ⟨ad, rfl, aft t ht⟩) hS.2.2 hd hlocks)
      · cases h1
    · cases h
  · obtain ⟨rfl, h⟩ := am_ck_some h
    split at h
    · rename_i x _
      obtain ⟨h1, h⟩ := am_if_some h
      cases h
      unfold am_rl at h1
      split at h1
      · rename_i hty
        exact vx_ret (W.lret (v := x) hx hb (by rw [hr]; exact hty) (fun t ht _ => ⟨ad, rfl, aft t ht⟩) hS.2.2 hd hlocks)
      · cases h1
    · cases h
  · obtain ⟨rfl, h⟩ := am_ck_some h
    split at h
    · rename_i x _
      obtain ⟨h1, h⟩ := am_if_some h
      cases h
      unfold am_ra at h1
      split at h1
      · rename_i nm hty
        exact vx_ret (W.aret (v := .ref (ad x)) hx hb (by rw [hr]; exact hty) (Or.inl ⟨_, rfl⟩) (Or.inr ⟨_, rfl⟩) (fun t ht _ => ⟨ad, rfl, aft t ht⟩) hS.2.2 hd hlocks)
      · rename_i nm hty
        exact vx_ret (W.aret (v := .ref (ad x)) hx hb (by rw [hr]; exact hty) (Or.inr ⟨_, rfl⟩) (Or.inr ⟨_, rfl⟩) (fun t ht _ => ⟨ad, rfl, aft t ht⟩) hS.2.2 hd hlocks)
      · cases h1
    · cases h
  · obtain ⟨rfl, h⟩ := am_ck_some h
    split at h
    · obtain ⟨h1, h⟩ := am_if_some h
      cases h
      unfold am_rv at h1
      split at h1
      · rename_i hty
        exact vx_ret (W.vret hx hb (by rw [hr]; exact hty) (fun t ht _ => ⟨ad, rfl, aft t ht⟩) hS.2.2 hd hlocks)
      · cases h1
    · cases h
  · cases h
theorem am_run_ok (hx : p.tables.exec = Jvm.exec) (hb : c.code = am_by y) (hml : c.maxLocals = am_ml y) (hown : s.vm.findClass (am_onm (am_ow y)) = some m.cls) (hts : ∀ w ∈ am_good, w.before args s = true) (hI : am_Inv dC dI cA s) (hXt : am_Xt b A s) (hRf : d + 1 ≤ R.frames) (hRl : 41 * (d + 1) ≤ R.locals) (hcup : am_cup call) (hcall : ∀ y as w q, call y as w = some q → am_wf w → am_ow y < 21 ∧ am_Sd l dC dI cA d y as w q)
    (hr : meth.sig.returnType = am_rt y) (hlocks : meth.locks = false) (hini : am_ini y = true → meth.name = "<init>") (hnt : ∀ x ∈ c.exceptionTable.toList, False) (hA : ∀ q, s.heap.size ≤ q → A q) :
    ∀ (N : Nat) (S : am_S), am_run call y N S = some q → q.2.2.1 ≤ R.cells → q.2.2.2 ≤ R.slots → ∀ (ad : Nat → Nat) (H : Heap) (locs : List Loc) (LS : Array Slot), w0.1.length ≤ S.2.2.2.1.1.length → am_agr w0.1.length S.2.2.2.1.1.length ad0 ad → am_wf S.2.2.2.1 → va_P (dC, dI) vwCl (am_ws cA ad S.2.2.2.1) H → va_D A (am_ws cA ad S.2.2.2.1) → va_S A s.heap H locs → am_lr (am_v b ad) S.2.1 LS (am_ml y) →
      W p l e R s m args below meth c H locs S.2.2.2.2.1 S.2.2.2.2.2 (vx_MQ below (am_Qc dC dI cA b ad0 w0 A q) (am_XC dC dI cA ad0 w0 A q) args s q.2.2.1 q.2.2.2 A) (F0 m S.1 LS (S.2.2.1.map (am_v b ad))) := by
  intro N
  induction N with
  | zero => intro S h; cases h
  | succ N ih =>
    intro S h hc hn ad H locs LS hle ha hw hP hD hS hl
    unfold am_run at h
    -- behind a step
    have go : ∀ s' : am_S, am_step call y S = some (.inl s') → am_run call y N s' = some q → s'.2.2.2.2.1 ≤ R.cells ∧ s'.2.2.2.2.2 ≤ R.slots ∧ am_kk p l e R s m args below meth c (vx_MQ below (am_Qc dC dI cA b ad0 w0 A q) (am_XC dC dI cA ad0 w0 A q) args s q.2.2.1 q.2.2.2 A) b ad (am_ml y) dC dI cA A s.heap S.2.2.2.1.1.length s' := by
      intro s' hs h
      have u1 : am_up _ _ _ _ _ _ := am_step_up hcup hs
      have u2 := am_run_up hcup h
      refine ⟨Nat.le_trans u2.1 hc, Nat.le_trans u2.2.1 hn, fun ad' H1 locs1 LS1 g1 g2 g3 g4 g5 => ?_⟩
      exact ih s' h hc hn ad' H1 locs1 LS1 (Nat.le_trans hle u1.2.2.1) (ha.tr g1 hle u1.2.2.1) (u1.2.2.2 hw) g2 g3 g4 g5
    split at h
    · rename_i s' hs
      have g := go s' hs h
      have hs2 := hs
      unfold am_step at hs
      split at hs
      · rename_i i len hd
        split at hs
        · split at hs
          · rename_i z hz
            cases hs
            exact am_pu_ok hx hb hown hts hd hz hl (fun LS1 h1 => g.2.2 ad H locs LS1 am_agr_rf hP hD hS h1)
          · cases hs
        · split at hs
          · rename_i z hz
            cases hs
            exact am_he_ok hx hb hown hini hts hI.2.1 hI.2.2 hI.1 hP hD hS hA hw hd hz ⟨g.1, g.2.1⟩ hl g.2.2
          · cases hs
        · exact am_ca_ok (t := .inl s') hx hb hml hown hts hI hXt hRf hRl hcall hP hD hS hA hw hl g hd hs
        · split at hs
          · cases hs
          · cases hs
      · cases hs
    · rename_i q' hs
      cases h
      unfold am_step at hs
      split at hs
      · rename_i i len hd
        split at hs
        · split at hs
          · cases hs
          · cases hs
        · split at hs
          · cases hs
          · cases hs
        · refine am_ca_ok (t := .inr q) hx hb hml hown hts hI hXt hRf hRl hcall hP hD hS hA hw hl ⟨hc, hn, ?_⟩ hd hs
          intro E ad' H1 locs1 ce q9 rest hE g1 g2 g3 g4 g5 g6 g7
          have u1 : am_up _ _ _ _ _ _ := am_step_up (t := .inr q) hcup (y := y) (s := S) (by unfold am_step; rw [hd]; dsimp only; rename_i hcl; rw [hcl]; exact hs)
          refine vx_out (E := am_xn E) (fun x hx => (hnt x hx).elim) hlocks g5 g6 g7 (fun t ht _ => ?_) g4.2.2 (Nat.le_refl _) (Nat.le_refl _)
          unfold am_XC
          rw [hE]
          exact ⟨rfl, ad', ⟨⟨ha.tr g1 hle u1.2.2.1, by rw [ht]; exact g2, g3⟩, g4.F ht⟩⟩
        · split at hs
          · rename_i z hz
            cases hs
            exact am_ed_ok hx hb hr hlocks hP hD hS ha hd hz
          · cases hs
      · cases hs
    · cases h
end AME
theorem am_call_ok {l : Launch} {dC : Nat → ClassId} {dI : Nat → Nat → Nat} {cA : Nat → ClassId} (N : Nat) : ∀ (d y : Nat) (as : List Value) (w : am_W) (q : am_O), am_call N d y as w = some q → am_wf w → am_ow y < 21 ∧ am_Sd l dC dI cA d y as w q := by
  intro d
  induction d with
  | zero => intro y as w q h; cases h
  | succ d ih =>
    intro y as w q h hw
    unfold am_call at h
    obtain ⟨h1, h⟩ := am_if_some h
    simp only [Bool.and_eq_true] at h1
    obtain ⟨⟨-, h2⟩, h3⟩ := h1
    have how : am_ow y < 21 := Nat.blt_eq.mp h2
    have hlen : (am_lay as).length ≤ am_ml y := Nat.le_of_ble_eq_true h3
    refine ⟨how, fun b ad sz => ?_⟩
    obtain ⟨f1, f2, f3, f4, f5, f6, f7⟩ := am_fact how
    refine am_ofW (cc := am_by y) (maxL := am_ml y) (ret := am_rt y) f6 rfl ?_
    intro p e s m args below meth c s₁ B hml hnt hv
    obtain ⟨rfl, hsz, hP, hD0, hI, hXt⟩ := hv
    have hts0 := atoms_spec (ws := am_wd y) B.pre
    have hts : ∀ w ∈ am_good, w.before _ s = true := fun w h => hts0 w (List.mem_cons_of_mem _ h)
    have hown : s.vm.findClass (am_onm (am_ow y)) = some m.cls := by rw [f7]; exact findClass_of_methodNamed B.named
    subst hsz
    have hini : am_ini y = true → meth.name = "<init>" := fun h => ((name_of_methodNamed B.named B.method).1).trans (of_decide_eq_true h)
    have hl0 := lv_entry (as.map (am_v b ad)) (n := am_ml y) (by rw [am_lay_len]; exact hlen)
    rw [lg_entry_eq]
    generalize hLS : (lg_sl (as.map (am_v b ad)) ++ List.replicate (am_ml y - (lg_sl (as.map (am_v b ad))).length) Slot.unset).toArray = LS at hl0 ⊢
    have hl : am_lr (am_v b ad) (am_ent y as) LS (am_ml y) := by
      refine ⟨?_, ?_⟩
      · unfold am_ent
        rw [am_lay_al]
        exact hl0
      · unfold am_ent
        rw [List.length_append, List.length_replicate]
        omega
    exact am_run_ok (R := (headSpec (am_wd y) (am_room (d + 1) q.2.2.1 q.2.2.2)).room) (d := d) (ad0 := ad) (w0 := w) B.exec B.bytes hml hown hts hI hXt (Nat.le_refl _) (Nat.le_refl _) (am_call_up N d) ih B.returns B.notSynchronized hini hnt (fun q h => Or.inr h) N (0, am_ent y as, [], w, 0, 0) h (Nat.le_refl _) (Nat.le_refl _) ad s.heap [] LS (Nat.le_refl _) am_agr_rf hw hP hD0.self va_S.rf hl

