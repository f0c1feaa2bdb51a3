/-! THE CLAIM OUT OF ONE WALK OF THE LAW'S BODY. Your part is whole_start (and what it stands on); all else here is the same for every law, but numbers. -/
def R_law : String := "PrunedParsesLaw"
def lw_P (b : Addr) (xs : List Int32) (args : Array Value) (s : State) : Prop := args = #[.ref b] ∧ s.IntsAt b xs ∧ xs.length ≤ 3072 ∧ (Jvm.Cond.and given_1 narrow_1).before args s = true
def lw_Q (_ : Array Value) (s : State) (o : Outcome) (t : State) : Prop := o = .returned (some (.int 1)) ∧ Framed s o t [] 601024 7293034
def lw_Z (below : List Frame) (a : Array Value) (s : State) : State → Prop := fun t => ∃ o, t.status = .running ∧ Ended t below o ∧ lw_Q a s o t
/-- the law's own end, with 1 on the stack, nothing written that was there before, its room as the claim has it -/
theorem lw_ret {p : Program} {l : Launch} {e : Env} {s : State} {m : MethodId} {below : List Frame} {meth : Method} {c : Code} {b : Nat} (hx : p.tables.exec = Jvm.exec) (hb : c.code = code) (hr : meth.sig.returnType = ret) (hlocks : meth.locks = false) {pc : Nat} {H : Heap} {ls : Array Slot} (hdg : decode code pc = .ok (.ireturn, 1)) : W p l e room_1 s m #[Value.ref b] below meth c H [] 601024 7293034 (lw_Z below #[Value.ref b] s) (F0 m pc ls [.int 1]) := by
  intro T hT X
  obtain ⟨fs, hret, hrun, hended, hW, hframe⟩ := X.leave (v := some (.int 1)) (hlocks := hlocks) (fun h => by rw [hr] at h; cases h)
  have hmeth' : T.vm.method? m = some meth := X.method'
  refine ⟨T.setFrames fs, ?_, .returned (some (.int 1)), hrun, hended, rfl, ⟨_, rfl⟩, hW, hframe⟩
  jvm_step X.here [X.here.top, hx, hb, hdg, hmeth', hr, ret, narrow_b1]
  (try refine ⟨rfl, ?_⟩); (try refine ⟨rfl, ?_⟩)
  first | (intro acts; rw [hret _ acts rfl rfl rfl]) | rw [hret _ _ rfl rfl rfl]
  exact Steps.refl _
/-- what holds at the law's entry: the machine, the code, the tables' words (any of lw_tbl by 'hts w (by decide +kernel)'), the script of L ints xs at the cell b, what the Statement gives of the start (any of its parts by flat_of_before) -/
def lw_At (p : Program) (s : State) (m : MethodId) (meth : Method) (c : Code) (b L : Nat) (xs : Nat → Int32) : Prop :=
  p.tables.exec = Jvm.exec ∧ c.code = code ∧ meth.sig.returnType = ret ∧ c.maxLocals = 7 ∧ s.vm.findClass R_law = some m.cls ∧ (∀ w ∈ lw_tbl, w.before #[Value.ref b] s = true) ∧ va_X b L xs s s.heap ∧ b < s.heap.size ∧ meth.locks = false ∧ (Jvm.Cond.and given_1 narrow_1).before #[Value.ref b] s = true
/-! The start: what the Statement gives; the law's own frame -/
def am_flat : List Cond := flatC (Jvm.Cond.and given_1 narrow_1)
def am_stw (t : Term) (bs : List Int32) : List Cond := Cond.exactly t "java/lang/String" :: Cond.eq (.field t "java/lang/String" "coder" "B") (.int 0) :: Cond.arrayOf (.field t "java/lang/String" "value" "[B") .byte :: Cond.eq (.length (.field t "java/lang/String" "value" "[B")) (.int (Int32.ofNat bs.length)) :: (List.range bs.length).map (fun j => Cond.eq (.elem (.field t "java/lang/String" "value" "[B") (.int (Int32.ofNat j))) (.int (bs.getD j 0)))
def am_stm (i : Nat) : Term := match (am_sts 1 ++ am_sts 2 ++ am_sts 8 ++ am_sts 11)[i]? with
  | some q => .string (if i < 7 then am_onm 1 else if i < 15 then am_onm 2 else if i < 19 then am_onm 8 else am_onm 11) q.1
  | none => .int 0
theorem am_f0 : (List.range 21).all (fun i => (am_stw (am_stm i) (am_sb i)).all (fun w => decide (w ∈ am_flat)) && decide ((am_sb i).length < 100)) = true := by decide +kernel
theorem am_f1 : (List.range 21).all (fun o => (am_sts o).all (fun q => decide (Term.string (am_onm o) q.1 = am_stm q.2.1) || decide (Cond.eq (am_stm q.2.1) (Term.string (am_onm o) q.1) ∈ am_flat))) = true := by decide +kernel
theorem am_f2 : [Cond.isRef (.static Bundle.tN "UNASSIGNED_STACK" Bundle.steD), Cond.isRef (.static Bundle.tN "SUPPRESSED_SENTINEL" Bundle.listD), Cond.eq (.static "java/lang/String" "COMPACT_STRINGS" "Z") (.int 1), Cond.isRef (.static "jdk/internal/util/Preconditions" "SIOOBE_FORMATTER" "Ljava/util/function/BiFunction;"), Cond.not (.castable "java/util/NoSuchElementException" "java/lang/IllegalArgumentException"), Cond.not (.castable "java/lang/IllegalArgumentException" "java/util/NoSuchElementException")].all (fun w => decide (w ∈ am_flat)) = true := by decide +kernel
theorem am_f3 : [Cond.laysStatic Bundle.tN "UNASSIGNED_STACK" Bundle.steD, Cond.laysStatic Bundle.tN "SUPPRESSED_SENTINEL" Bundle.listD, Cond.laysStatic "java/lang/String" "COMPACT_STRINGS" "Z", Cond.laysStatic "jdk/internal/util/Preconditions" "SIOOBE_FORMATTER" "Ljava/util/function/BiFunction;", Cond.initialized Bundle.tN, Cond.initialized "java/lang/String", Cond.initialized "jdk/internal/util/Preconditions", Cond.arrayClass .int, Cond.arrayClass .boolean, Cond.arrayClass .long, Cond.arrayOver (.object RX5), Cond.arrayOver (.object RX6), Cond.arrayOver (.object RX9)].all (fun w => decide (w ∈ tables_1)) = true := by decide +kernel
theorem am_txt {args : Array Value} {s : State} {A : Nat → Prop} (hA : ∀ a : Nat, a < s.heap.size → ¬ A a) {t : Term} {bs : List Int32} (hn : bs.length < 100) (h : ∀ w ∈ am_stw t bs, w.before args s = true) : ∃ a v : Nat, t.eval args s none [] s = some (.ref a) ∧ va_O "java/lang/String" a A s s.heap ∧ va_OF "java/lang/String" "coder" "B" (.int 0) a A s s.heap ∧ va_OF "java/lang/String" "value" "[B" (.ref v) a A s s.heap ∧ va_T .byte v bs.length (fun j => .int (bs.getD j 0)) A s s.heap := by
  unfold am_stw at h
  obtain ⟨adK, adV, h1, h2⟩ := vk_Sof (args := args) (s := s) (N := 1) (tm := fun _ => t) (len := [bs.length]) (byt := [bs]) (A := A)
    (fun i hi => by
      have : i = 0 := by omega
      subst this
      show bs.length < 2 ^ 31
      omega)
    (fun i hi => h _ List.mem_cons_self)
    (fun i hi => h _ (List.mem_cons_of_mem _ List.mem_cons_self))
    (fun i hi => h _ (List.mem_cons_of_mem _ (List.mem_cons_of_mem _ List.mem_cons_self)))
    (fun i hi => by
      have : i = 0 := by omega
      subst this
      exact h _ (List.mem_cons_of_mem _ (List.mem_cons_of_mem _ (List.mem_cons_of_mem _ List.mem_cons_self))))
    (fun i hi j hj => by
      have : i = 0 := by omega
      subst this
      exact h _ (List.mem_cons_of_mem _ (List.mem_cons_of_mem _ (List.mem_cons_of_mem _ (List.mem_cons_of_mem _ (List.mem_map.mpr ⟨j, List.mem_range.mpr hj, rfl⟩))))))
    (fun i j hi hj hne => absurd (by omega) hne) hA
  exact ⟨adK 0, adV 0, h2 0 (by omega), h1.1 0 (by omega)⟩
theorem am_arrK {s : State} {args : Array Value} {t : FieldType} (h : (Cond.arrayClass t).before args s = true) (ht : t = .int ∨ t = .boolean ∨ t = .long) : ∃ cA : ClassId, ArrOfT s cA t ∧ va_RA s cA t := by
  obtain ⟨cA, kA, comp, h1, h2, h3⟩ := Cond.arrayClass_spec h
  refine ⟨cA, fun n z => ⟨fun k h => (by cases h), kA, h2, comp, h3⟩, ?_⟩
  rcases ht with rfl | rfl | rfl <;> exact h1
theorem am_arq {s : State} {args : Array Value} {C : String} (h : (Cond.arrayOver (.object C)).before args s = true) : ∃ cA : ClassId, ArrOfT s cA (.object C) ∧ va_RA s cA (.object C) := by
  obtain ⟨comp, cA, kA, f4, -, f2, f3, f1⟩ := Cond.arrayOver_spec h
  exact ⟨cA, fun n z => ⟨fun k h => (by cases h), kA, f2, comp, f3⟩, kA, comp, f2, f3, f4, f1⟩
theorem am_start {p : Program} {s : State} {m : MethodId} {meth : Method} {c : Code} {b0 L : Nat} {xs : Nat → Int32} (C0 : lw_At p s m meth c b0 L xs) : ∃ (dC : Nat → ClassId) (dI : Nat → Nat → Nat) (cA : Nat → ClassId) (b : Nat → Option Nat), b 0 = some b0 ∧ am_Inv dC dI cA s ∧ am_Xt b (fun q => s.heap.size ≤ q) s := by
  obtain ⟨-, -, -, -, -, hts, -, -, -, hgv⟩ := C0
  have hA : ∀ a : Nat, a < s.heap.size → ¬ (fun q : Nat => s.heap.size ≤ q) a := fun a h => Nat.not_le.mpr h
  have hf : ∀ w ∈ am_flat, w.before #[Value.ref b0] s = true := flat_of_before _ hgv
  have gd : ∀ w, w ∈ tables_1 → w.before #[Value.ref b0] s = true := fun w h => hts w (List.mem_append_right _ h)
  have z2 := am_f2
  simp only [List.all_cons, List.all_nil, Bool.and_true, Bool.and_eq_true, decide_eq_true_eq] at z2
  obtain ⟨y1, y2, y3, y4, y5, y6⟩ := z2
  have z3 := am_f3
  simp only [List.all_cons, List.all_nil, Bool.and_true, Bool.and_eq_true, decide_eq_true_eq] at z3
  obtain ⟨t1, t2, t3, t4, t5, t6, t7, t8, t9, t10, t11, t12, t13⟩ := z3
  -- the classes
  have hcl : ∀ k : Nat, ∃ x : ClassId × (Nat → Nat), k < 13 → u_Kn s (am_cl k).1 (am_cl k).2.1 (am_cn k) x.1 x.2 := by
    intro k
    by_cases hk : k < 13
    · obtain ⟨c, i, h⟩ := u_known (C := (am_cl k).1) (T := (am_cl k).2.1) (N := am_cn k) (n := am_cn k) hts (fun w hw => (List.mem_filter.mp (am_lays hk w hw)).1) (hts _ (List.mem_filter.mp (am_insw hk).1).1)
      exact ⟨(c, i), fun _ => h⟩
    · obtain ⟨c, i, h⟩ := u_known (C := (am_cl 0).1) (T := (am_cl 0).2.1) (N := am_cn 0) (n := am_cn 0) hts (fun w hw => (List.mem_filter.mp (am_lays (c := 0) (by omega) w hw)).1) (hts _ (List.mem_filter.mp (am_insw (c := 0) (by omega)).1).1)
      exact ⟨(c, i), fun h => absurd h hk⟩
  obtain ⟨D, hD⟩ := Classical.axiomOfChoice hcl
  obtain ⟨a0, g0⟩ := am_arrK (gd _ t8) (Or.inl rfl)
  obtain ⟨a1, g1⟩ := am_arrK (gd _ t9) (Or.inr (Or.inl rfl))
  obtain ⟨a2, g2⟩ := am_arrK (gd _ t10) (Or.inr (Or.inr rfl))
  obtain ⟨a3, g3⟩ := am_arq (gd _ t11)
  obtain ⟨a4, g4⟩ := am_arq (gd _ t12)
  obtain ⟨a5, g5⟩ := am_arq (gd _ t13)
  -- the texts
  have htx : ∀ i : Nat, ∃ q : Nat × Nat, i < 21 → (am_stm i).eval #[Value.ref b0] s none [] s = some (.ref q.1) ∧ va_O "java/lang/String" q.1 (fun q => s.heap.size ≤ q) s s.heap ∧ va_OF "java/lang/String" "coder" "B" (.int 0) q.1 (fun q => s.heap.size ≤ q) s s.heap ∧ va_OF "java/lang/String" "value" "[B" (.ref q.2) q.1 (fun q => s.heap.size ≤ q) s s.heap ∧ va_T .byte q.2 (am_sb i).length (fun j => .int ((am_sb i).getD j 0)) (fun q => s.heap.size ≤ q) s s.heap := by
    intro i
    by_cases hi : i < 21
    · have h1 := List.all_eq_true.mp am_f0 i (List.mem_range.mpr hi)
      simp only [Bool.and_eq_true, decide_eq_true_eq] at h1
      obtain ⟨a, v, h⟩ := am_txt (args := #[Value.ref b0]) hA h1.2 (fun w hw => hf w (of_decide_eq_true (List.all_eq_true.mp h1.1 w hw)))
      exact ⟨(a, v), fun _ => h⟩
    · exact ⟨(0, 0), fun h => absurd h hi⟩
  obtain ⟨tx, htx⟩ := Classical.axiomOfChoice htx
  obtain ⟨fm, hfm⟩ : ∃ o : Option Nat, va_Z "jdk/internal/util/Preconditions" "SIOOBE_FORMATTER" "Ljava/util/function/BiFunction;" (va_rf o) (fun q => s.heap.size ≤ q) s s.heap := by
    rcases vx_Zqof (gd _ t4) (gd _ t7) (hf _ y4) hA with h | ⟨t, h⟩
    · exact ⟨none, h⟩
    · exact ⟨some t, h⟩
  refine ⟨fun k => (D k).1, fun k => (D k).2, fun k => match k with
    | 0 => a0
    | 1 => a1
    | 2 => a2
    | 8 => a3
    | 9 => a4
    | 12 => a5
    | _ => a0, fun i => if i = 0 then some b0 else if 2 ≤ i ∧ i < 23 then some (tx (i - 2)).1 else if 102 ≤ i ∧ i < 123 then some (tx (i - 102)).2 else if i = 200 then fm else none, rfl, ⟨⟨fun k q hk => ?_, fun k q hk => ?_⟩, fun w hw => ?_, fun t p c e => ?_, va_Nc.of (hf _ y5), va_Nc.of (hf _ y6)⟩, vx_Zqof (gd _ t1) (gd _ t5) (hf _ y1) hA, vx_Zqof (gd _ t2) (gd _ t5) (hf _ y2) hA, va_Zof (gd _ t3) (gd _ t6) (va_eqi (hf _ y3)) hA, hfm, fun i hi => ?_, fun o j q e => ?_⟩
  · have hk13 : k < 13 := (List.getElem?_eq_some_iff.mp hk).1
    have e := am_vw hk13
    rw [hk] at e
    cases e
    exact hD k hk13
  · have hk6 : k < 6 := (List.getElem?_eq_some_iff.mp hk).1
    match k, hk6 with
    | 0, _ => cases hk; exact g0
    | 1, _ => cases hk; exact g1
    | 2, _ => cases hk; exact g2
    | 3, _ => cases hk; exact g3
    | 4, _ => cases hk; exact g4
    | 5, _ => cases hk; exact g5
  · obtain ⟨h1, h2⟩ := List.mem_filter.mp hw
    refine va_Nw.of ?_ (hts w h1)
    cases w <;> first | (cases h2; done) | rfl
  · unfold am_tp at e
    split at e
    · cases e; exact va_AO.of (gd _ t11)
    · cases e; exact va_AO.of (gd _ t12)
    · cases e; exact va_AO.of (gd _ t13)
    · cases e
  · obtain ⟨h1, h2, h3, h4, h5⟩ := htx i hi
    refine ⟨(tx i).1, (tx i).2, ?_, ?_, h2, h3, h4, h5⟩
    · show (if i + 2 = 0 then _ else _) = _
      rw [if_neg (by omega), if_pos (by omega), Nat.add_sub_cancel]
    · show (if i + 102 = 0 then _ else _) = _
      rw [if_neg (by omega), if_neg (by omega), if_pos (by omega), Nat.add_sub_cancel]
  · by_cases ho : o < 21
    · have hq := am_lk_mem e
      have h1 := List.all_eq_true.mp (List.all_eq_true.mp am_f1 o (List.mem_range.mpr ho)) _ hq
      have h2 := List.all_eq_true.mp (List.all_eq_true.mp am_sts_ok o (List.mem_range.mpr ho)) _ hq
      simp only [Bool.and_eq_true, Bool.or_eq_true, decide_eq_true_eq] at h1 h2
      obtain ⟨h2, h3⟩ := h2
      obtain ⟨g, -⟩ := htx q.1 h2
      refine ⟨(tx q.1).1, ?_, vk_R.of (A := #[Value.ref b0]) (hts _ (am_is_mem h3)) ?_⟩
      · show (if q.1 + 2 = 0 then _ else _) = _
        rw [if_neg (by omega), if_pos (by omega), Nat.add_sub_cancel]
      · rcases h1 with h1 | h1
        · rw [h1]; exact g
        · exact va_eqR (hf _ h1) g
    · rw [am_sts_big ho] at e
      cases e
def am_w0 : am_W := ([], fun _ _ => 0, fun _ _ => 0, fun _ _ => none)
/-- the law comes to its end with 1, if the abstract machine does, in the claim's room -/
theorem am_law {p : Program} {e : Env} {s : State} {m : MethodId} {below : List Frame} {meth : Method} {c : Code} (l : Launch) (hflags : l.flags = flags0) {b0 L : Nat} {xs : Nat → Int32} (C0 : lw_At p s m meth c b0 L xs)
    {N d k n : Nat} {w' : am_W} (hrun : am_run (some (L, xs)) (am_call N d) (d + 1) nX_L_law_ N (0, am_ent nX_L_law_ [.retAddr 0], [], am_w0, 0, 0) = some (.inl (some (.int 1)), w', k, n)) (hk : k ≤ 601024) (hn : n ≤ 7293034) (hd : d < 2048) :
    W p l e room_1 s m #[Value.ref b0] below meth c s.heap [] 0 0 (lw_Z below #[Value.ref b0] s) (entryFrame m ([Value.ref b0] : List Value).toArray 7) := by
  obtain ⟨dC, dI, cA, b, hb0, hI, hXt⟩ := am_start C0
  obtain ⟨hx, hb, hr, hml, hown, hts, hX, hbl, hlocks, hgv⟩ := C0
  have hst : l.stackTraces = false := by
    unfold Launch.stackTraces
    rw [hflags]
    decide
  have hcode : am_by nX_L_law_ = code := rfl
  have hhd : am_hd nX_L_law_ = [] := rfl
  have hmll : am_ml nX_L_law_ = 7 := rfl
  have hl0 := lv_entry ([.ref b0]) (n := 7) (Nat.le_of_ble_eq_true rfl)
  rw [lg_entry_eq]
  generalize (lg_sl ([.ref b0]) ++ List.replicate (7 - (lg_sl ([.ref b0])).length) Slot.unset).toArray = LS at hl0 ⊢
  have hl : am_lr (am_v b (fun _ => 0)) (am_ent nX_L_law_ [.retAddr 0]) LS (am_ml nX_L_law_) := by
    refine ⟨?_, rfl⟩
    have e1 : am_al (am_v b (fun _ => 0)) 0 (am_ent nX_L_law_ [.retAddr 0]) = [(0, va_rf (b 0))] := rfl
    rw [e1, hb0]
    exact hl0
  have hz : s.heap.size ≤ s.heap.size := Nat.le_refl _
  exact am_run_ok (R := room_1) (d := d) (ad0 := fun _ => 0) (w0 := am_w0) (A := fun q => s.heap.size ≤ q) (args := #[Value.ref b0]) (sc := some (L, xs)) (y := nX_L_law_) (call := am_call N d) (q := (.inl (some (.int 1)), w', k, n)) hx (by rw [hcode]; exact hb) (by rw [hmll]; exact hml) hown (fun w h => hts w (List.mem_filter.mp h).1) hI (by show d + 1 ≤ 2048; omega) (by show 41 * (d + 1) ≤ 84000; omega) (am_call_up N d) (am_call_ok hst N d) (fun h => absurd h (by decide +kernel)) (fun h => absurd hhd h) (fun _ h => h)
    (fun b1 ad1 H locs LS1 pc len k1 n1 i st w1 hdd hz ha hP1 hD1 hS1 hsz => by
      have hst1 : i = .ireturn ∧ len = 1 ∧ st = [.int 1] ∧ k1 = k ∧ n1 = n := by
        unfold am_ed at hz
        split at hz
        · have hq := am_ck_some hz
          clear hz
          obtain ⟨rfl, hz⟩ := hq
          split at hz
          · obtain ⟨-, hz⟩ := am_if_some hz
            cases hz
            exact ⟨rfl, rfl, rfl, rfl, rfl⟩
          · cases hz
        · have hq := am_ck_some hz
          clear hz
          obtain ⟨rfl, hz⟩ := hq
          split at hz
          · obtain ⟨-, hz⟩ := am_if_some hz
            cases hz
          · cases hz
        · have hq := am_ck_some hz
          clear hz
          obtain ⟨rfl, hz⟩ := hq
          split at hz
          · obtain ⟨-, hz⟩ := am_if_some hz
            cases hz
          · cases hz
        · have hq := am_ck_some hz
          clear hz
          obtain ⟨rfl, hz⟩ := hq
          split at hz
          · obtain ⟨-, hz⟩ := am_if_some hz
            cases hz
          · cases hz
        · cases hz
      obtain ⟨rfl, rfl, rfl, rfl, rfl⟩ := hst1
      refine W.widen hk hn (va_forget hS1.2.2 ?_)
      exact lw_ret hx hb hr hlocks (by rw [← hcode]; exact hdd))
    (fun _ _ _ E _ _ _ _ _ _ hE => by cases hE)
    (fun _ _ _ _ _ _ _ _ _ _ _ _ _ hq => by cases hq)
    N (0, am_ent nX_L_law_ [.retAddr 0], [], am_w0, 0, 0) hrun hk hn b (fun _ => 0) s.heap [] LS hXt (fun L' xs' h => by
      cases h
      exact ⟨b0, hb0, hX, hbl, Nat.not_le.mpr hbl⟩) (Nat.le_refl _) am_agr_rf (fun _ _ _ h => by cases h) (fun k q h => by cases h) ⟨fun i j p q h => (by cases h), fun k q h => (by cases h)⟩ va_S.rf hl
