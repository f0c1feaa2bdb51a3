/-! Runs and calls: what the abstract machine does, the machine does -/
theorem am_v_b1 {b b' : Nat → Option Nat} (hb : ∀ i, i ≠ 1 → b' i = b i) {ad : Nat → Nat} {v : Value} (h : ∀ k, v = .retAddr k → k ≠ 1) : am_v b' ad v = am_v b ad v := by
  cases v <;> first | rfl | skip
  rename_i k
  show va_rf (b' k) = va_rf (b k)
  rw [hb k (h k rfl)]
theorem am_al_b1 {b b' : Nat → Option Nat} (hb : ∀ i, i ≠ 1 → b' i = b i) {ad : Nat → Nat} : ∀ {ls : am_L} {i : Nat}, am_n1 ls = true → am_al (am_v b' ad) i ls = am_al (am_v b ad) i ls
  | [], _, _ => rfl
  | none :: r, i, h => by
    have h2 : am_n1 r = true := by
      unfold am_n1 at h ⊢
      rw [List.all_cons] at h
      simpa using h
    show am_al (am_v b' ad) (i + 1) r = am_al (am_v b ad) (i + 1) r
    exact am_al_b1 hb h2
  | some v :: r, i, h => by
    unfold am_n1 at h
    rw [List.all_cons, Bool.and_eq_true] at h
    obtain ⟨h1, h2⟩ := h
    show (i, am_v b' ad v) :: am_al (am_v b' ad) (i + 1) r = (i, am_v b ad v) :: am_al (am_v b ad) (i + 1) r
    rw [am_al_b1 hb (ls := r) h2, am_v_b1 hb (v := v) (fun k e hk => by subst e; subst hk; cases h1)]
theorem am_lr_b1 {b b' : Nat → Option Nat} (hb : ∀ i, i ≠ 1 → b' i = b i) {ad : Nat → Nat} {ls : am_L} {LS : Array Slot} {nL : Nat} (h : am_n1 ls = true) (hl : am_lr (am_v b ad) ls LS nL) : am_lr (am_v b' ad) ls LS nL := by
  unfold am_lr
  rw [am_al_b1 hb h]
  exact hl
section AMRU
variable {p : Program} {l : Launch} {e : Env} {R : Room} {s : State} {m : MethodId} {args : Array Value} {below : List Frame} {meth : Method} {c : Code} {Q : State → Prop}
variable {ad0 : Nat → Nat} {dC : Nat → ClassId} {dI : Nat → Nat → Nat} {cA : Nat → ClassId} {A : Nat → Prop} {w0 : am_W} {d y : Nat} {call : am_C} {q : am_O} {sc : Option (Nat × (Nat → Int32))}
/-- what a frame's ends and throws must give -/
abbrev am_hE (p : Program) (l : Launch) (e : Env) (R : Room) (s : State) (m : MethodId) (args : Array Value) (below : List Frame) (meth : Method) (c : Code) (Q : State → Prop) (ad0 : Nat → Nat) (dC : Nat → ClassId) (dI : Nat → Nat → Nat) (cA : Nat → ClassId) (A : Nat → Prop) (w0 : am_W) (y : Nat) (q : am_O) : Prop :=
  ∀ (b : Nat → Option Nat) (ad : Nat → Nat) (H : Heap) (locs : List Loc) (LS : Array Slot) (pc len k n : Nat) (i : Instr) (st : List Value) (w : am_W), decode (am_by y) pc = .ok (i, len) → am_ed y i len st w k n = some q → am_agr w0.1.length w.1.length ad0 ad → va_P (dC, dI) vwCl (am_ws cA ad w) H → va_D A (am_ws cA ad w) → va_S A s.heap H locs → LS.size = c.maxLocals → W p l e R s m args below meth c H locs k n Q (F0 m pc LS (st.map (am_v b ad)))
abbrev am_hX (p : Program) (l : Launch) (e : Env) (R : Room) (s : State) (m : MethodId) (args : Array Value) (below : List Frame) (meth : Method) (c : Code) (Q : State → Prop) (ad0 : Nat → Nat) (dC : Nat → ClassId) (dI : Nat → Nat → Nat) (cA : Nat → ClassId) (A : Nat → Prop) (w0 : am_W) (y : Nat) (q : am_O) : Prop :=
  am_hd y = [] → ∀ (pc : Nat) (LS : Array Slot), am_kt p l e R s m args below meth c Q ad0 dC dI cA A pc LS w0.1.length q
abbrev am_hT (p : Program) (l : Launch) (e : Env) (R : Room) (s : State) (m : MethodId) (args : Array Value) (below : List Frame) (meth : Method) (c : Code) (Q : State → Prop) (ad0 : Nat → Nat) (dC : Nat → ClassId) (dI : Nat → Nat → Nat) (cA : Nat → ClassId) (A : Nat → Prop) (w0 : am_W) (y d : Nat) (q : am_O) : Prop :=
  am_hd y = [] → ∀ (b : Nat → Option Nat) (ad : Nat → Nat) (H : Heap) (locs : List Loc) (LS : Array Slot) (pc k n E : Nat) (st : List Value) (w : am_W), am_th y pc = some E → q = (.inr E, w, k + 1, n + 6) → 6 ≤ d → am_sum st ≤ 8 → am_Xt b A s → am_agr w0.1.length w.1.length ad0 ad → va_P (dC, dI) vwCl (am_ws cA ad w) H → va_D A (am_ws cA ad w) → va_S A s.heap H locs → LS.size = c.maxLocals → W p l e R s m args below meth c H locs k n Q (F0 m pc LS (st.map (am_v b ad)))
theorem am_run_ok (hx : p.tables.exec = Jvm.exec) (hb : c.code = am_by y) (hml : c.maxLocals = am_ml y) (hown : s.vm.findClass (am_onm (am_ow y)) = some m.cls) (hts : ∀ w ∈ am_good, w.before args s = true) (hI : am_Inv dC dI cA s) (hRf : d + 1 ≤ R.frames) (hRl : 41 * (d + 1) ≤ R.locals) (hcup : am_cup call) (hcall : ∀ y as w q, call y as w = some q → am_wf w → am_pc y ≠ 9999 ∧ am_Sd l dC dI cA d y as w q)
    (hini : am_ini y = true → meth.name = "<init>") (htb : am_hd y ≠ [] → c.exceptionTable.toList = tableOf (am_hd y)) (hA : ∀ q, s.heap.size ≤ q → A q)
    (hend : am_hE p l e R s m args below meth c Q ad0 dC dI cA A w0 y q) (hthr : am_hX p l e R s m args below meth c Q ad0 dC dI cA A w0 y q) (hth : am_hT p l e R s m args below meth c Q ad0 dC dI cA A w0 y (d + 1) q) :
    ∀ (N : Nat) (S : am_S), am_run sc call (d + 1) y N S = some q → q.2.2.1 ≤ R.cells → q.2.2.2 ≤ R.slots → ∀ (b : Nat → Option Nat) (ad : Nat → Nat) (H : Heap) (locs : List Loc) (LS : Array Slot), am_Xt b A s → (∀ L xs, sc = some (L, xs) → ∃ a0, b 0 = some a0 ∧ va_X a0 L xs s s.heap ∧ a0 < s.heap.size ∧ ¬ A a0) → w0.1.length ≤ S.2.2.2.1.1.length → am_agr w0.1.length S.2.2.2.1.1.length ad0 ad → am_wf S.2.2.2.1 → va_P (dC, dI) vwCl (am_ws cA ad S.2.2.2.1) H → va_D A (am_ws cA ad S.2.2.2.1) → va_S A s.heap H locs → am_lr (am_v b ad) S.2.1 LS (am_ml y) →
      W p l e R s m args below meth c H locs S.2.2.2.2.1 S.2.2.2.2.2 Q (F0 m S.1 LS (S.2.2.1.map (am_v b ad))) := by
  intro N
  induction N with
  | zero => intro S h; cases h
  | succ N ih =>
    intro S h hc hn b ad H locs LS hXt hsc hle ha hw hP hD hS hl
    unfold am_run at h
    have hsz : LS.size = c.maxLocals := by rw [hml]; exact hl.1.1
    -- behind a step that goes on
    have go : ∀ s' : am_S, am_st2 sc call (d + 1) y S = some (.inl s') → am_run sc call (d + 1) y N s' = some q → s'.2.2.2.2.1 ≤ R.cells ∧ s'.2.2.2.2.2 ≤ R.slots ∧ am_kk p l e R s m args below meth c Q b ad (am_ml y) dC dI cA A s.heap S.2.2.2.1.1.length s' := by
      intro s' hs h
      have u1 : am_up _ _ _ _ _ _ := am_st2_up hcup hs
      have u2 := am_run_up hcup h
      refine ⟨Nat.le_trans u2.1 hc, Nat.le_trans u2.2.1 hn, fun ad' H1 locs1 LS1 g1 g2 g3 g4 g5 => ?_⟩
      exact ih s' h hc hn b ad' H1 locs1 LS1 hXt hsc (Nat.le_trans hle u1.2.2.1) (ha.tr g1 hle u1.2.2.1) (u1.2.2.2 hw) g2 g3 g4 g5
    -- behind a call's throw
    have thr : ∀ (E : Nat) (w' : am_W) (k' n' : Nat), am_step sc call (d + 1) y S = some (.inr (.inr E, w', k', n')) → (match am_cat y S E w' k' n' with
        | some (.inl s') => am_run sc call (d + 1) y N s'
        | some (.inr q) => some q
        | none => none) = some q → k' ≤ R.cells ∧ n' ≤ R.slots ∧ am_kt p l e R s m args below meth c Q ad dC dI cA A S.1 LS S.2.2.2.1.1.length (.inr E, w', k', n') := by
      intro E w' k' n' hs h
      have u1 : am_up _ _ _ _ _ _ := am_step_up (t := .inr (.inr E, w', k', n')) hcup hs
      unfold am_cat at h
      split at h
      · rename_i s' h0
        split at h0
        · cases h0
        · rename_i h1 t1 hh
          split at h0
          · rename_i hp hhf
            obtain ⟨e1, h0⟩ := am_if_some h0
            cases h0
            simp only [Bool.and_eq_true] at e1
            obtain ⟨⟨⟨e1, e2⟩, e3⟩, e4⟩ := e1
            have e1 : E < 2 := Nat.blt_eq.mp e1
            have e3 := Nat.eq_of_beq_eq_true e3
            have u2 : am_up _ _ _ _ _ _ := am_run_up hcup h
            refine ⟨Nat.le_trans u2.1 hc, Nat.le_trans u2.2.1 hn, fun E' ad' H1 locs1 ce q9 rest hE g1 g2 g3 g4 g5 g6 g7 => ?_⟩
            have hE : E = E' := by cases hE; rfl
            subst hE
            have hown2 : s.vm.findClass RL = some m.cls := by
              rw [e3] at hown
              exact hown
            refine am_cat_ok (hh := am_hd y) hown2 hts hI (htb (by rw [hh]; exact fun h => by cases h)) e1 (by rw [hh]; exact hhf) g5 g6 g7 ?_
            have hbb : ∀ i, i ≠ 1 → (fun i => if i = 1 then some q9 else b i) i = b i := fun i hi => if_neg hi
            have hl2 : am_lr (am_v b ad') S.2.1 LS (am_ml y) := by
              by_cases hv : am_vld S.2.2.2.1.1.length S.2.1 [] = true
              · exact am_vld_lr g1.lo hv hl
              · rw [Bool.not_eq_true] at hv
                rw [hv, Bool.or_false] at e4
                have e5 := Nat.eq_of_beq_eq_true e4
                have g9 : am_agr S.2.2.2.1.1.length w'.1.length ad ad' := g1
                rw [e5] at g9
                rw [g9.eq]
                exact hl
            exact ih (hp, S.2.1, [.retAddr 1], w', k', n') h hc hn (fun i => if i = 1 then some q9 else b i) ad' H1 locs1 LS (hXt.b (fun i hi => hbb i (by omega))) (fun L xs e => by
              obtain ⟨a0, z1, z2⟩ := hsc L xs e
              exact ⟨a0, (hbb 0 (by omega)).trans z1, z2⟩) (Nat.le_trans hle u1.2.2.1) (ha.tr g1 hle u1.2.2.1) (u1.2.2.2 hw) g2 g3 g4 (am_lr_b1 hbb e2 hl2)
          · cases h0
      · rename_i q' h0
        split at h0
        · rename_i hh
          cases h0
          cases h
          refine ⟨hc, hn, fun E' ad' H1 locs1 ce q9 rest hE g1 g2 g3 g4 g5 g6 g7 => ?_⟩
          exact hthr hh S.1 LS E' ad' H1 locs1 ce q9 rest hE (ha.tr g1 hle u1.2.2.1) g2 g3 g4 g5 g6 g7
        · split at h0
          · obtain ⟨-, h0⟩ := am_if_some h0
            cases h0
          · cases h0
      · cases h
    cases hst : am_step sc call (d + 1) y S with
    | none =>
      unfold am_st2 at h
      rw [hst] at h
      cases h
    | some t =>
      have hst0 := hst
      unfold am_step at hst
      split at hst
      · rename_i i len hd
        split at hst
        · rename_i z hz
          cases hst
          have hs2 : am_st2 sc call (d + 1) y S = some (.inl (z.1, z.2.1, z.2.2, S.2.2.2.1, S.2.2.2.2.1, S.2.2.2.2.2)) := by unfold am_st2; rw [hst0]
          rw [hs2] at h
          have g := go _ hs2 h
          exact am_xo_ok hx hb hown hts hXt hS hsc hd hz hl (fun LS1 h1 => g.2.2 ad H locs LS1 am_agr_rf hP hD hS h1)
        · unfold am_s0 at hst
          split at hst
          · split at hst
            · rename_i z hz
              cases hst
              have hs2 : am_st2 sc call (d + 1) y S = some (.inl (z.1, z.2.1, z.2.2, S.2.2.2.1, S.2.2.2.2.1, S.2.2.2.2.2)) := by unfold am_st2; rw [hst0]
              rw [hs2] at h
              have g := go _ hs2 h
              exact am_pu_ok hx hb hown hts hd hz hl (fun LS1 h1 => g.2.2 ad H locs LS1 am_agr_rf hP hD hS h1)
            · cases hst
          · split at hst
            · rename_i z hz
              cases hst
              have hs2 : am_st2 sc call (d + 1) y S = some (.inl z) := by unfold am_st2; rw [hst0]
              rw [hs2] at h
              have g := go _ hs2 h
              exact am_he_ok hx hb hown hini hts hI.2.1 hI.2.2.1 hI.1 hP hD hS hA hw hd hz ⟨g.1, g.2.1⟩ hl g.2.2
            · split at hst
              · rename_i E hE
                obtain ⟨e1, hst⟩ := am_if_some hst
                cases hst
                simp only [Bool.and_eq_true] at e1
                obtain ⟨⟨e1, e2⟩, e3⟩ := e1
                have e1 : 6 ≤ d + 1 := Nat.le_of_ble_eq_true e1
                have e2 : am_sum S.2.2.1 ≤ 8 := Nat.le_of_ble_eq_true e2
                have hh : am_hd y = [] := List.isEmpty_iff.mp e3
                have hs2 : am_st2 sc call (d + 1) y S = some (.inr (.inr E, S.2.2.2.1, S.2.2.2.2.1 + 1, S.2.2.2.2.2 + 6)) := by
                  unfold am_st2
                  rw [hst0]
                  dsimp only
                  unfold am_cat
                  rw [hh]
                rw [hs2] at h
                cases h
                exact hth hh b ad H locs LS S.1 S.2.2.2.2.1 S.2.2.2.2.2 E S.2.2.1 S.2.2.2.1 hE rfl e1 e2 hXt ha hP hD hS hsz
              · cases hst
          · refine am_ca_ok (t := t) hx hb hml hown hts hI hXt hRf hRl hcall hP hD hS hA hw hl ?_ hd hst
            match t, hst0 with
            | .inl s', hst0 =>
              have hs2 : am_st2 sc call (d + 1) y S = some (.inl s') := by unfold am_st2; rw [hst0]
              rw [hs2] at h
              exact go s' hs2 h
            | .inr (.inr E, w', k', n'), hst0 =>
              have hs2 : am_st2 sc call (d + 1) y S = am_cat y S E w' k' n' := by unfold am_st2; rw [hst0]
              rw [hs2] at h
              exact thr E w' k' n' hst0 h
            | .inr (.inl v, w', k', n'), hst0 =>
              have hs2 : am_st2 sc call (d + 1) y S = some (.inr (.inl v, w', k', n')) := by unfold am_st2; rw [hst0]
              rw [hs2] at h
              cases h
              exact ⟨hc, hn, fun E ad' H1 locs1 ce q9 rest hE => by cases hE⟩
          · split at hst
            · rename_i z hz
              cases hst
              have hv : ∃ v, z.1 = .inl v := by
                unfold am_ed at hz
                split at hz
                all_goals first | (cases hz; done) | (obtain ⟨-, hz⟩ := am_ck_some hz)
                all_goals split at hz
                all_goals first | (cases hz; done) | (obtain ⟨-, hz⟩ := am_if_some hz; cases hz; exact ⟨_, rfl⟩)
              obtain ⟨v, hv⟩ := hv
              obtain ⟨z1, w', k', n'⟩ := z
              dsimp only at hv
              subst hv
              have hs2 : am_st2 sc call (d + 1) y S = some (.inr (.inl v, w', k', n')) := by unfold am_st2; rw [hst0]
              rw [hs2] at h
              cases h
              exact hend b ad H locs LS S.1 len S.2.2.2.2.1 S.2.2.2.2.2 i S.2.2.1 S.2.2.2.1 hd hz ha hP hD hS hsz
            · cases hst
      · cases hst
end AMRU
/-- a method's body, whatever its table -/
theorem am_ofX {l : Launch} {y : Nat} {rm : Room} {Pc : Array Value → State → Prop} {Qc : Array Value → State → Outcome → State → Prop} {XC : String → State → State → Prop} {mc ms : Nat} {free : Addr → Prop} (hy : am_pc y ≠ 9999)
    (body : ∀ p e s m args below meth c s₁, BodyLoose p l (am_mn y) (headSpec (am_wd y) rm) (am_by y) (am_ml y) (am_rt y) e s m args below meth c s₁ → c.maxLocals = am_ml y → c.exceptionTable.toList = tableOf (am_hd y) → Pc args s →
      W p l e (headSpec (am_wd y) rm).room s m args below meth c s.heap [] 0 0 (vx_MQ below Qc XC args s mc ms free) (entryFrame m args (am_ml y))) : vx_Met l (am_mn y) (am_wd y) rm Pc Qc XC mc ms free := by
  obtain ⟨f1, f2, f3, f4, f5, f6, f7⟩ := am_fact hy
  cases hh : am_hd y with
  | nil =>
    refine am_ofW (cc := am_by y) (maxL := am_ml y) (ret := am_rt y) (ws' := am_good) f6 (by unfold am_wd; rw [am_cw_0 hh]) ?_
    intro p e s m args below meth c s₁ B hml hnt hP
    refine body p e s m args below meth c s₁ B hml ?_ hP
    rw [hh]
    cases hq : c.exceptionTable.toList with
    | nil => rfl
    | cons x r => exact (hnt x (by rw [hq]; exact List.mem_cons_self)).elim
  | cons h1 t1 =>
    have hw : am_cw (am_mt y) = Cond.codeWith (am_mn y) (am_by y) (am_ml y) (am_rt y) (am_hd y) := am_cw_1 hh
    have hin : Cond.codeWith (am_mn y) (am_by y) (am_ml y) (am_rt y) (am_hd y) ∈ am_wd y := by rw [← hw]; exact List.mem_cons_self
    refine MetFree.of_bodySF (code := am_by y) (maxLocals := am_ml y) (ret := am_rt y) f6 ?_ ?_
    · intro args s m h hn
      obtain ⟨m9, meth, c, hn9, h1, h2, h3, h4, -, h5, h6, -⟩ := Cond.codeWith_spec (atoms_spec (ws := am_wd y) h _ hin)
      cases hn.symm.trans hn9
      exact ⟨meth, c, h1, h2, h3, h4, h5, h6⟩
    · intro p e s m args below meth c s₁ B hml hP _
      have hh0 : s₁.heap = s.heap := by rw [B.state]; rfl
      obtain ⟨t, a1, o, b1, b2, b3⟩ := body p e s m args below meth c s₁ B hml (vx_table (x := am_mn y) B (atoms_spec (ws := am_wd y) B.pre _ hin)) hP s₁ hh0 (Stand.of_body B)
      exact ⟨t, o, a1, b1, b2, b3⟩
theorem am_call_ok {l : Launch} {dC : Nat → ClassId} {dI : Nat → Nat → Nat} {cA : Nat → ClassId} (hst : l.stackTraces = false) (N : Nat) : ∀ (d y : Nat) (as : List Value) (w : am_W) (q : am_O), am_call N d y as w = some q → am_wf w → am_pc y ≠ 9999 ∧ am_Sd l dC dI cA d y as w q := by
  intro d
  induction d with
  | zero => intro y as w q h; cases h
  | succ d ih =>
    intro y as w q h hw
    unfold am_call at h
    obtain ⟨h1, h⟩ := am_if_some h
    simp only [Bool.and_eq_true] at h1
    obtain ⟨h2, h3⟩ := h1
    have how : am_pc y ≠ 9999 := by
      intro hq
      rw [hq] at h2
      cases h2
    have hlen : (am_lay as).length ≤ am_ml y := Nat.le_of_ble_eq_true h3
    refine ⟨how, fun b ad sz => ?_⟩
    obtain ⟨f1, f2, f3, f4, f5, f6, f7⟩ := am_fact how
    refine am_ofX how ?_
    intro p e s m args below meth c s₁ B hml htb hv
    obtain ⟨rfl, hsz, hP, hD0, hI, hXt⟩ := hv
    have hts0 := atoms_spec (ws := am_wd y) B.pre
    have hts : ∀ w ∈ am_good, w.before _ s = true := fun w h => hts0 w (List.mem_cons_of_mem _ h)
    have hown : s.vm.findClass (am_onm (am_ow y)) = some m.cls := by rw [f7]; exact findClass_of_methodNamed B.named
    subst hsz
    have hini : am_ini y = true → meth.name = "<init>" := fun h => ((name_of_methodNamed B.named B.method).1).trans (of_decide_eq_true h)
    have hl0 := lv_entry (as.map (am_v b ad)) (n := am_ml y) (by rw [am_lay_len]; exact hlen)
    rw [lg_entry_eq]
    generalize hLS : (lg_sl (as.map (am_v b ad)) ++ List.replicate (am_ml y - (lg_sl (as.map (am_v b ad))).length) Slot.unset).toArray = LS at hl0 ⊢
    have hl : am_lr (am_v b ad) (am_ent y as) LS (am_ml y) := by
      refine ⟨?_, ?_⟩
      · unfold am_ent
        rw [am_lay_al]
        exact hl0
      · unfold am_ent
        rw [List.length_append, List.length_replicate]
        omega
    have hnt : am_hd y = [] → ∀ x ∈ c.exceptionTable.toList, False := by
      intro hh x hx
      rw [htb, hh] at hx
      cases hx
    exact am_run_ok (R := (headSpec (am_wd y) (am_room (d + 1) q.2.2.1 q.2.2.2)).room) (d := d) (ad0 := ad) (w0 := w) (A := va_A (am_ws cA ad w) s.heap.size) B.exec B.bytes hml hown hts hI (Nat.le_refl _) (Nat.le_refl _) (am_call_up N d) ih hini (fun _ => htb) (fun q h => Or.inr h)
      (fun b1 ad1 H locs LS pc len k n i st w1 hd hz ha hP1 hD1 hS1 _ => am_ed_ok (b0 := b) B.exec B.bytes B.returns B.notSynchronized hP1 hD1 hS1 ha hd hz)
      (fun hh pc LS E ad' H1 locs1 ce q9 rest hE g1 g2 g3 g4 g5 g6 g7 => vx_out (E := am_xn E) (fun x hx => (hnt hh x hx).elim) B.notSynchronized g5 g6 g7 (fun t ht _ => by
        unfold am_XC
        rw [hE]
        exact ⟨rfl, ad', ⟨⟨g1, by rw [ht]; exact g2, g3⟩, g4.F ht⟩⟩) g4.2.2 (Nat.le_refl _) (Nat.le_refl _))
      (fun hh b1 ad1 H locs LS pc k n E st w1 hE hq h6 hsum hXt1 ha hP1 hD1 hS1 hsz1 => by
        subst hq
        refine am_th_ok (b := b1) (R := (headSpec (am_wd y) (am_room (d + 1) (k + 1) (n + 6))).room) B.exec B.bytes hst hown hts hI hXt1 hS1 hsz1 (hnt hh) h6 (by show 41 * 6 ≤ 41 * (d + 1); omega) (Nat.le_refl _) (Nat.le_refl _) B.notSynchronized (by rw [am_sum_v]; exact hsum) hE (fun t hv hz hk => ?_) hS1.2.2 (Nat.le_refl _) (Nat.le_refl _)
        refine ⟨rfl, ad1, ⟨ha, hP1.kept (fun k1 q1 hk1 => ?_), hD1⟩, Nat.le_trans hS1.1 hz, fun a h1 h2 => ?_⟩
        · exact hk _ (hP1 _ _ hk1).lt
        · rw [hk a (Nat.lt_of_lt_of_le h1 hS1.1)]
          exact hS1.2.1 a h1 h2)
      N (0, am_ent y as, [], w, 0, 0) h (Nat.le_refl _) (Nat.le_refl _) b ad s.heap [] LS hXt (fun _ _ h => by cases h) (Nat.le_refl _) am_agr_rf hw hP hD0.self va_S.rf hl
