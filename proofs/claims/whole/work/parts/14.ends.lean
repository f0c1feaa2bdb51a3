/-! Ends, runs, methods: the machine does what the abstract one does -/
theorem am_ofW {l : Launch} {y : MethodName} {ws ws' : List Cond} {rm : Room} {Pc : Array Value → State → Prop} {Qc : Array Value → State → Outcome → State → Prop} {XC : String → State → State → Prop} {mc ms : Nat} {free : Addr → Prop} {cc : ByteArray} {maxL : Nat} {ret : Option FieldType}
    (hy : plainFor y = true) (hw : ws = Cond.code y cc maxL ret :: ws')
    (body : ∀ p e s m args below meth c s₁, BodyLoose p l y (headSpec ws rm) cc maxL ret e s m args below meth c s₁ → c.maxLocals = maxL → (∀ x ∈ c.exceptionTable.toList, False) → Pc args s →
      W p l e (headSpec ws rm).room s m args below meth c s.heap [] 0 0 (vx_MQ below Qc XC args s mc ms free) (entryFrame m args maxL)) : vx_Met l y ws rm Pc Qc XC mc ms free := by
  refine MetFree.of_bodySF (code := cc) (maxLocals := maxL) (ret := ret) hy ?_ ?_
  · intro args s m h hn
    obtain ⟨meth, c, h1, h2, h3, h4, h5, h6, -, -⟩ := Cond.code_spec hn (atoms_spec (ws := ws) h _ (by rw [hw]; exact List.mem_cons_self))
    exact ⟨meth, c, h1, h2, h3, h4, h5, h6⟩
  · intro p e s m args below meth c s₁ B hml hP _
    have hh0 : s₁.heap = s.heap := by rw [B.state]; rfl
    have ht : ∀ x ∈ c.exceptionTable.toList, False := by
      obtain ⟨meth9, c9, h1, h2, -, -, -, -, h7, -⟩ := Cond.code_spec B.named (atoms_spec (ws := ws) B.pre _ (by rw [hw]; exact List.mem_cons_self))
      cases Option.some.inj (h1.symm.trans B.method)
      cases Option.some.inj (h2.symm.trans (Stand.of_body B).code)
      intro x hx
      rw [Array.isEmpty_iff.mp h7] at hx
      cases hx
    obtain ⟨t, a1, o, b1, b2, b3⟩ := body p e s m args below meth c s₁ B hml ht hP s₁ hh0 (Stand.of_body B)
    exact ⟨t, o, a1, b1, b2, b3⟩
theorem am_lay_two {v : Value} {r : List Value} (h : v.category = 2) : am_lay (v :: r) = some v :: none :: am_lay r := by
  rw [am_lay, h]
theorem am_lay_one {v : Value} {r : List Value} (h : ¬ v.category = 2) : am_lay (v :: r) = some v :: am_lay r := by
  have hb : Nat.beq v.category 2 = false := by
    cases hq : Nat.beq v.category 2 with
    | false => rfl
    | true => exact absurd (Nat.eq_of_beq_eq_true hq) h
  rw [am_lay, hb]
theorem am_lay_len (b : Nat → Option Nat) (ad : Nat → Nat) : ∀ as : List Value, (lg_sl (as.map (am_v b ad))).length = (am_lay as).length
  | [] => rfl
  | v :: r => by
    have ih := am_lay_len b ad r
    unfold lg_sl at ih ⊢
    rw [List.map_cons, List.flatMap_cons, List.length_append, ih, am_v_cat]
    by_cases h : v.category = 2
    · rw [if_pos h, am_lay_two h]
      simp
      omega
    · rw [if_neg h, am_lay_one h]
      simp
      omega
theorem am_lay_al (b : Nat → Option Nat) (ad : Nat → Nat) (k : Nat) : ∀ (as : List Value) (i : Nat), am_al (am_v b ad) i (am_lay as ++ List.replicate k none) = lv_args i (as.map (am_v b ad))
  | [], i => by
    show am_al (am_v b ad) i (List.replicate k none) = []
    induction k generalizing i with
    | zero => rfl
    | succ k ih => rw [List.replicate_succ, am_al, ih]
  | v :: r, i => by
    rw [List.map_cons, lv_args, am_v_cat]
    by_cases h : v.category = 2
    · rw [if_pos h, am_lay_two h]
      show (i, am_v b ad v) :: am_al (am_v b ad) (i + 1 + 1) (am_lay r ++ List.replicate k none) = _
      rw [am_lay_al b ad k r]
    · rw [if_neg h, am_lay_one h]
      show (i, am_v b ad v) :: am_al (am_v b ad) (i + 1) (am_lay r ++ List.replicate k none) = _
      rw [am_lay_al b ad k r]
/-- the text constants' words -/
theorem am_str_ok : [Cond.fieldLink "java/lang/String" 9 "java/lang/String" "value" "[B", Cond.fieldLink "java/lang/String" 15 "java/lang/String" "coder" "B", Cond.fieldLink "java/lang/String" 38 "java/lang/String" "COMPACT_STRINGS" "Z", Cond.fieldLink "java/lang/String" 1053 "jdk/internal/util/Preconditions" "SIOOBE_FORMATTER" "Ljava/util/function/BiFunction;"].all (fun w => decide (w ∈ tables_1)) = true := by decide +kernel
theorem am_sts_big {o : Nat} (h : ¬ o < 21) : am_sts o = [] := by
  match o, h with
  | o + 21, _ => rfl
section AMX
variable {p : Program} {l : Launch} {e : Env} {R : Room} {s : State} {m : MethodId} {args : Array Value} {below : List Frame} {meth : Method} {c : Code} {H : Heap} {locs : List Loc} {cells slots : Nat} {Q : State → Prop}
variable {cc : ByteArray} {pc : Nat} {b : Nat → Option Nat} {ad : Nat → Nat} {nL : Nat} {A : Nat → Prop} {ls : am_L} {st rest : List Value} {LS : Array Slot} {o : Nat} {sc : Option (Nat × (Nat → Int32))}
theorem am_ldcwS {own tx : String} {index q : Nat} (hexec : p.tables.exec = Jvm.exec) (hb : c.code = cc) (hown : s.vm.findClass own = some m.cls) (hZ : vk_R own index tx q s) (hdg : decode cc pc = .ok (.ldc_w index, 3))
    (k : W p l e R s m args below meth c H locs cells slots Q (F0 m (pc + 3) LS (.ref q :: rest))) : W p l e R s m args below meth c H locs cells slots Q (F0 m pc LS rest) := by
  intro T hT X
  obtain ⟨t, a1, b1⟩ := k T hT X
  have hZ' := hZ
  exact ⟨t, X.ldcStringW hexec (text := tx) (a := q) hown hZ'.1 hZ'.2 (g := F0 m pc LS rest) rfl (by rw [hb]; exact hdg) t a1, b1⟩
theorem am_xo_ok {i : Instr} {len : Nat} {q : Nat × am_L × List Value} (hx : p.tables.exec = Jvm.exec) (hb : c.code = cc) (hown : s.vm.findClass (am_onm o) = some m.cls) (hts : ∀ w ∈ am_good, w.before args s = true) (hXt : am_Xt b A s) (hS : va_S A s.heap H locs)
    (hsc : ∀ L xs, sc = some (L, xs) → ∃ a0, b 0 = some a0 ∧ va_X a0 L xs s s.heap ∧ a0 < s.heap.size ∧ ¬ A a0)
    (hd : decode cc pc = .ok (i, len)) (h : am_xo sc o i len pc ls st = some q) (hl : am_lr (am_v b ad) ls LS nL) (kk : ∀ LS1, am_lr (am_v b ad) q.2.1 LS1 nL → W p l e R s m args below meth c H locs cells slots Q (F0 m q.1 LS1 (q.2.2.map (am_v b ad)))) : W p l e R s m args below meth c H locs cells slots Q (F0 m pc LS (st.map (am_v b ad))) := by
  have z := am_str_ok
  simp only [List.all_cons, List.all_nil, Bool.and_true, Bool.and_eq_true, decide_eq_true_eq] at z
  obtain ⟨z1, z2, z3, z4⟩ := z
  obtain ⟨-, -, x3, x4, x5, x6⟩ := hXt
  have vr : ∀ k, am_v b ad (.retAddr k) = va_rf (b k) := fun _ => rfl
  unfold am_xo at h
  split at h
  · rename_i j
    obtain ⟨rfl, h⟩ := am_ck_some h
    unfold am_xg at h
    split at h
    · rename_i k r _
      have hh := am_if_some h
      clear h
      obtain ⟨h1, h5⟩ := hh
      unfold am_strq at h1
      simp only [Bool.and_eq_true] at h1
      obtain ⟨⟨h1, h2⟩, h3⟩ := h1
      have h1 : 2 ≤ k := Nat.le_of_ble_eq_true h1
      have h2 : k < 23 := Nat.blt_eq.mp h2
      have h3 := Nat.eq_of_beq_eq_true h3
      subst h3
      obtain ⟨a, t, e1, e2, g1, g2, g3, g4⟩ := x5 (k - 2) (by omega)
      rw [show k - 2 + 2 = k from by omega] at e1
      rw [show k - 2 + 102 = k + 100 from by omega] at e2
      rw [List.map_cons, vr, e1]
      split at h5
      · cases h5
        have k2 := kk LS hl
        rw [List.map_cons, vr, e2] at k2
        exact vk_getf (own := "java/lang/String") (ref := "java/lang/String") hx hb g3 hS hown (hts _ (am_good_in (List.mem_append_right _ z1) rfl)) (fun _ h => h) hd k2
      · cases h5
        exact vk_getf (own := "java/lang/String") (ref := "java/lang/String") hx hb g2 hS hown (hts _ (am_good_in (List.mem_append_right _ z2) rfl)) (fun _ h => h) hd (kk LS hl)
      · cases h5
    · cases h
  · obtain ⟨rfl, h⟩ := am_ck_some h
    unfold am_xl at h
    split at h
    · rename_i k r _
      rw [List.map_cons, vr]
      split at h
      · split at h
        · rename_i L xs hq
          cases h
          obtain ⟨a0, e1, g1, g2, g3⟩ := hsc L xs rfl
          rw [e1]
          exact va_slen hx hb g1 g2 g3 hS hd (kk LS hl)
        · cases h
      · rename_i k _
        obtain ⟨h1, h⟩ := am_if_some h
        cases h
        unfold am_bytq at h1
        simp only [Bool.and_eq_true] at h1
        obtain ⟨h1, h2⟩ := h1
        have h1 : 102 ≤ k + 1 := Nat.le_of_ble_eq_true h1
        have h2 : k + 1 < 123 := Nat.blt_eq.mp h2
        obtain ⟨a, t, e1, e2, -, -, -, g4⟩ := x5 (k - 101) (by omega)
        rw [show k - 101 + 102 = k + 1 from by omega] at e2
        rw [e2]
        exact va_tlen hx hb g4 hS rfl hd (kk LS hl)
    · cases h
  · obtain ⟨rfl, h⟩ := am_ck_some h
    unfold am_xi at h
    split at h
    · split at h
      · rename_i L xs hq
        obtain ⟨h1, h⟩ := am_if_some h
        cases h
        obtain ⟨a0, e1, g1, g2, g3⟩ := hsc L xs rfl
        rw [List.map_cons, List.map_cons, vr, e1]
        exact va_sld hx hb g1 g2 g3 hS (am_in_ok h1) hd (kk LS hl)
      · cases h
    · cases h
  · obtain ⟨rfl, h⟩ := am_ck_some h
    unfold am_xb at h
    split at h
    · rename_i i k r _
      obtain ⟨h1, h⟩ := am_if_some h
      cases h
      unfold am_bytq at h1
      simp only [Bool.and_eq_true] at h1
      obtain ⟨⟨h1, h2⟩, h3⟩ := h1
      have h1 : 102 ≤ k := Nat.le_of_ble_eq_true h1
      have h2 : k < 123 := Nat.blt_eq.mp h2
      obtain ⟨a, t, e1, e2, -, -, -, g4⟩ := x5 (k - 102) (by omega)
      rw [show k - 102 + 102 = k from by omega] at e2
      rw [List.map_cons, List.map_cons, vr, e2]
      exact va_tb hx hb g4 hS (am_in_ok h3) rfl hd (kk LS hl)
    · cases h
  · rename_i j
    obtain ⟨rfl, h⟩ := am_ck_some h
    unfold am_xs at h
    obtain ⟨h1, h⟩ := am_if_some h
    have h1 := Nat.eq_of_beq_eq_true h1
    subst h1
    split at h
    · cases h
      exact va_gets (own := "java/lang/String") (ref := "java/lang/String") hx hb x3 hS hown (hts _ (am_good_in (List.mem_append_right _ z3) rfl)) (fun _ h => h) hd (kk LS hl)
    · cases h
      have k2 := kk LS hl
      rw [List.map_cons, vr] at k2
      exact va_gets (own := "java/lang/String") (ref := "jdk/internal/util/Preconditions") hx hb x4 hS hown (hts _ (am_good_in (List.mem_append_right _ z4) rfl)) (fun _ h => h) hd k2
    · cases h
  · obtain ⟨rfl, h⟩ := am_ck_some h
    split at h
    · rename_i q1 hq
      cases h
      obtain ⟨a, e1, g⟩ := x6 _ _ _ hq
      have k2 := kk LS hl
      rw [List.map_cons, vr, e1] at k2
      exact va_ldcS hx hb hown g hd k2
    · cases h
  · obtain ⟨rfl, h⟩ := am_ck_some h
    split at h
    · rename_i q1 hq
      cases h
      obtain ⟨a, e1, g⟩ := x6 _ _ _ hq
      have k2 := kk LS hl
      rw [List.map_cons, vr, e1] at k2
      exact am_ldcwS hx hb hown g hd k2
    · cases h
  · cases h
end AMX
section AME
variable {p : Program} {l : Launch} {e : Env} {R : Room} {s : State} {m : MethodId} {args : Array Value} {below : List Frame} {meth : Method} {c : Code} {H : Heap} {locs : List Loc}
variable {pc : Nat} {b b0 : Nat → Option Nat} {ad ad0 : Nat → Nat} {nL : Nat} {dC : Nat → ClassId} {dI : Nat → Nat → Nat} {cA : Nat → ClassId} {A : Nat → Prop} {ls : am_L} {st : List Value} {w w0 : am_W} {k n d : Nat} {LS : Array Slot} {y : Nat} {call : am_C} {q : am_O}
theorem am_ed_ok {i : Instr} {len : Nat} (hx : p.tables.exec = Jvm.exec) (hb : c.code = am_by y) (hr : meth.sig.returnType = am_rt y) (hlocks : meth.locks = false)
    (hP : va_P (dC, dI) vwCl (am_ws cA ad w) H) (hD : va_D A (am_ws cA ad w)) (hS : va_S A s.heap H locs) (ha : am_agr w0.1.length w.1.length ad0 ad)
    (hd : decode (am_by y) pc = .ok (i, len)) (h : am_ed y i len st w k n = some q) : W p l e R s m args below meth c H locs k n (vx_MQ below (am_Qc dC dI cA b0 ad0 w0 A q) (am_XC dC dI cA ad0 w0 A q) args s q.2.2.1 q.2.2.2 A) (F0 m pc LS (st.map (am_v b ad))) := by
  have aft : ∀ t : State, t.heap = H → am_aft dC dI cA ad0 w0 A w ad s t := fun t ht => ⟨⟨ha, by rw [ht]; exact hP, hD⟩, hS.F ht⟩
  unfold am_ed at h
  split at h
  · obtain ⟨rfl, h⟩ := am_ck_some h
    split at h
    · rename_i x _
      obtain ⟨h1, h⟩ := am_if_some h
      cases h
      unfold am_rr at h1
      split at h1
      · rename_i ty hty
        have hn : narrow ty (.int x) = .int x := by
          unfold am_rk at h1
          split at h1
          · rfl
          · simp only [Bool.or_eq_true, decide_eq_true_eq] at h1
            rcases h1 with rfl | rfl <;> rfl
          · exact of_decide_eq_true h1
        exact vx_ret (W.zret (v := x) hx hb (by rw [hr]; exact hty) hn (fun t ht _ => ⟨ad, rfl, aft t ht⟩) hS.2.2 hd hlocks)
      · cases h1
    · cases h
  · obtain ⟨rfl, h⟩ := am_ck_some h
    split at h
    · rename_i x _
      obtain ⟨h1, h⟩ := am_if_some h
      cases h
      unfold am_rl at h1
      split at h1
      · rename_i hty
        exact vx_ret (W.lret (v := x) hx hb (by rw [hr]; exact hty) (fun t ht _ => ⟨ad, rfl, aft t ht⟩) hS.2.2 hd hlocks)
      · cases h1
    · cases h
  · obtain ⟨rfl, h⟩ := am_ck_some h
    split at h
    · rename_i x _
      obtain ⟨h1, h⟩ := am_if_some h
      cases h
      unfold am_ra at h1
      split at h1
      · rename_i nm hty
        exact vx_ret (W.aret (v := .ref (ad x)) hx hb (by rw [hr]; exact hty) (Or.inl ⟨_, rfl⟩) (Or.inr ⟨_, rfl⟩) (fun t ht _ => ⟨ad, rfl, aft t ht⟩) hS.2.2 hd hlocks)
      · rename_i nm hty
        exact vx_ret (W.aret (v := .ref (ad x)) hx hb (by rw [hr]; exact hty) (Or.inr ⟨_, rfl⟩) (Or.inr ⟨_, rfl⟩) (fun t ht _ => ⟨ad, rfl, aft t ht⟩) hS.2.2 hd hlocks)
      · cases h1
    · cases h
  · obtain ⟨rfl, h⟩ := am_ck_some h
    split at h
    · obtain ⟨h1, h⟩ := am_if_some h
      cases h
      unfold am_rv at h1
      split at h1
      · rename_i hty
        exact vx_ret (W.vret hx hb (by rw [hr]; exact hty) (fun t ht _ => ⟨ad, rfl, aft t ht⟩) hS.2.2 hd hlocks)
      · cases h1
    · cases h
  · cases h
end AME

