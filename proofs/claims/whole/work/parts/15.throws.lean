/-! Throws: where one is made, where one is caught -/
def am_tn : List String := ["java/lang/RuntimeException", "java/lang/Exception"]
theorem am_t0 : ∀ w ∈ (am_atN RX11 349 "java/util/NoSuchElementException" 13 prog_32_method_4_code "java/lang/RuntimeException" ["java/lang/Exception"]).filter goodWord, w ∈ lw_tbl := by decide +kernel
theorem am_t1 : ∀ w ∈ (vx_atS RX11 356 "java/lang/IllegalArgumentException" am_tn).filter goodWord, w ∈ lw_tbl := by decide +kernel
theorem am_t2 : ((am_atN RX11 349 "java/util/NoSuchElementException" 13 prog_32_method_4_code "java/lang/RuntimeException" ["java/lang/Exception"]).filter (fun w => !goodWord w)).all (fun w => am_nestw w && w.onTables && decide (w ∈ lw_tbl)) = true := by decide +kernel
theorem am_t3 : ((vx_atS RX11 356 "java/lang/IllegalArgumentException" am_tn).filter (fun w => !goodWord w)).all (fun w => am_nestw w && w.onTables && decide (w ∈ lw_tbl)) = true := by decide +kernel
theorem am_t4 : (Cond.classLink RX11 345 "java/util/NoSuchElementException" :: Cond.initialized "java/util/NoSuchElementException" :: am_atN RX11 349 "java/util/NoSuchElementException" 13 prog_32_method_4_code "java/lang/RuntimeException" ["java/lang/Exception"]).all vx_ot = true := by decide +kernel
theorem am_t5 : (Cond.classLink RX11 352 "java/lang/IllegalArgumentException" :: Cond.initialized "java/lang/IllegalArgumentException" :: vx_atS RX11 356 "java/lang/IllegalArgumentException" am_tn).all vx_ot = true := by decide +kernel
theorem am_t6 : [Cond.classLink RX11 345 "java/util/NoSuchElementException", Cond.initialized "java/util/NoSuchElementException", Cond.classLink RX11 352 "java/lang/IllegalArgumentException", Cond.initialized "java/lang/IllegalArgumentException", Cond.classLink RL 13 "java/lang/IllegalArgumentException", Cond.classLink RL 28 "java/util/NoSuchElementException", Cond.castable "java/lang/IllegalArgumentException" "java/lang/IllegalArgumentException", Cond.castable "java/util/NoSuchElementException" "java/util/NoSuchElementException"].all (fun w => decide (w ∈ tables_1)) = true := by decide +kernel
theorem am_hat {args : Array Value} {s : State} {L : List Cond} (hts : ∀ w ∈ am_good, w.before args s = true) (hnx : ∀ w ∈ am_nests, va_Nw w s) (h1 : ∀ w ∈ L.filter goodWord, w ∈ lw_tbl) (h2 : (L.filter (fun w => !goodWord w)).all (fun w => am_nestw w && w.onTables && decide (w ∈ lw_tbl)) = true) : ∀ w ∈ L, w.before args s = true := by
  intro w hw
  by_cases g : goodWord w = true
  · exact hts w (am_good_in (h1 w (List.mem_filter.mpr ⟨hw, g⟩)) g)
  · have h3 := List.all_eq_true.mp h2 w (List.mem_filter.mpr ⟨hw, by simpa using g⟩)
    simp only [Bool.and_eq_true, decide_eq_true_eq] at h3
    exact va_Nw.use h3.1.2 (hnx w (am_nests_in h3.2 h3.1.1))
section AMT
variable {p : Program} {l : Launch} {e : Env} {R : Room} {s : State} {m : MethodId} {args : Array Value} {below : List Frame} {meth : Method} {c : Code} {H : Heap} {locs : List Loc} {cells slots mc ms : Nat}
variable {pc y E : Nat} {b : Nat → Option Nat} {A : Nat → Prop} {LS : Array Slot} {rest : List Value} {free : Addr → Prop} {Qc : Array Value → State → Outcome → State → Prop} {XC : String → State → State → Prop} {dC : Nat → ClassId} {dI : Nat → Nat → Nat} {cA : Nat → ClassId}
theorem am_th_ok (hx : p.tables.exec = Jvm.exec) (hb : c.code = am_by y) (hst : l.stackTraces = false) (hown : s.vm.findClass (am_onm (am_ow y)) = some m.cls) (hts : ∀ w ∈ am_good, w.before args s = true) (hI : am_Inv dC dI cA s) (hXt : am_Xt b A s) (hS : va_S A s.heap H locs) (hsize : LS.size = c.maxLocals) (hnt : ∀ x ∈ c.exceptionTable.toList, False) (hRf : 6 ≤ R.frames) (hRl : 41 * 6 ≤ R.locals) (hR1 : cells + 1 ≤ R.cells) (hR2 : slots + 6 ≤ R.slots) (hlocks : meth.locks = false) (hr : (rest.map fun v => v.category).sum ≤ 8)
    (h : am_th y pc = some E) (hxc : ∀ t : State, s.vm.Alike t.vm → H.size ≤ t.heap.size → (∀ q : Nat, q < H.size → t.heap[q]? = H[q]?) → XC (am_xn E) s t) (hf : ∀ z ∈ locs, free z.base) (hc : cells + 1 ≤ mc) (hs : slots + 6 ≤ ms) :
    W p l e R s m args below meth c H locs cells slots (vx_MQ below Qc XC args s mc ms free) (F0 m pc LS rest) := by
  have z := am_t6
  simp only [List.all_cons, List.all_nil, Bool.and_true, Bool.and_eq_true, decide_eq_true_eq] at z
  obtain ⟨z1, z2, z3, z4, -⟩ := z
  have gd : ∀ w, w ∈ tables_1 → goodWord w = true → w.before args s = true := fun w h g => hts w (am_good_in (List.mem_append_right _ h) g)
  unfold am_th at h
  split at h
  · rename_i hy
    cases h
    simp only [Bool.and_eq_true] at hy
    obtain ⟨e1, e2⟩ := hy
    have e1 := Nat.eq_of_beq_eq_true e1
    have e2 := Nat.eq_of_beq_eq_true e2
    subst e1; subst e2
    obtain ⟨a, g1, g2⟩ := hXt.2.2.2.2.2 11 347 (19, 5060) rfl
    have d10 : decode (am_by 175) (20 + 10) = .ok (.athrow, 1) := by decide +kernel
    refine am_make (own := RX11) (cls := "java/util/NoSuchElementException") (Y := "java/lang/RuntimeException") (r := ["java/lang/Exception"]) (ik := 345) (is := 347) (ic := 349) (ix := 13) (bytes := prog_32_method_4_code) hx hb hst (by decide +kernel) (by decide +kernel) (by decide +kernel) (by decide +kernel) hown (by decide +kernel) (by decide +kernel) (gd _ z1 rfl) (gd _ z2 rfl) g2 (am_hat hts hI.2.1 am_t0 am_t2) (List.all_eq_true.mp am_t4) hXt.1 hXt.2.1 hS hsize (by decide +kernel) (by decide +kernel) (by decide +kernel) (by decide +kernel) (by show 1 + 1 + 3 < _; omega) (by show _ + (13 * (1 + 1 + 1) + 43) ≤ _; omega) hR1 hR2 (fun q ce H1 y1 y2 y3 y4 y5 y6 => ?_)
    refine am_athrow hx hb d10 ?_
    exact vx_out (E := "java/util/NoSuchElementException") (fun x hx => (hnt x hx).elim) hlocks y1 y2 y3 (fun t ht hv => hxc t hv (by rw [ht]; exact y4) (fun a h => by rw [ht]; exact y5 a h)) hf hc hs
  · split at h
    · rename_i hy
      cases h
      simp only [Bool.and_eq_true] at hy
      obtain ⟨e1, e2⟩ := hy
      have e1 := Nat.eq_of_beq_eq_true e1
      have e2 := Nat.eq_of_beq_eq_true e2
      subst e1; subst e2
      obtain ⟨a, g1, g2⟩ := hXt.2.2.2.2.2 11 354 (20, 2238) rfl
      exact vx_throwSW (own := RX11) (cls := "java/lang/IllegalArgumentException") (names := am_tn) (ik := 352) (is := 354) (ic := 356) hx hb hst hown (by decide +kernel) (by decide +kernel) (gd _ z3 rfl) (gd _ z4 rfl) g2 (am_hat hts hI.2.1 am_t1 am_t3) (List.all_eq_true.mp am_t5) hXt.1 hXt.2.1 hS hsize (by decide +kernel) (by decide +kernel) (by decide +kernel) (by decide +kernel) (by decide +kernel) (fun x hx => (hnt x hx).elim) (by show 2 + 3 < _; omega) (by show _ + (13 * (2 + 1) + 43) ≤ _; omega) hR1 hR2 hlocks hxc hf hc hs
    · cases h
end AMT
/-- the handler's row in the table -/
theorem am_hf_ok {E pc hp : Nat} : ∀ {hh : List (Nat × Nat × Nat × Nat)}, am_hf E pc hh = some hp → ∃ (pre : List ExceptionTableEntry) (x : ExceptionTableEntry) (suf : List ExceptionTableEntry), tableOf hh = pre ++ x :: suf ∧ (∀ z ∈ pre, covers z pc = false ∨ (z.catchType ≠ am_ct E ∧ (z.catchType = 13 ∨ z.catchType = 28))) ∧ covers x pc = true ∧ x.catchType = am_ct E ∧ x.handlerPc = hp
  | [], h => by cases h
  | (a, z, hq, t) :: r, h => by
    unfold am_hf at h
    split at h
    · rename_i h1
      cases h
      simp only [Bool.and_eq_true] at h1
      obtain ⟨⟨h1, h2⟩, h3⟩ := h1
      have h1 : a ≤ pc := Nat.le_of_ble_eq_true h1
      have h2 : pc < z := Nat.blt_eq.mp h2
      have h3 := Nat.eq_of_beq_eq_true h3
      exact ⟨[], ⟨a, z, hp, t⟩, tableOf r, rfl, fun _ h => absurd h List.not_mem_nil, by simp [covers, h1, h2], h3, rfl⟩
    · rename_i h1
      split at h
      · rename_i h2
        simp only [Bool.or_eq_true] at h2
        obtain ⟨pre, x, suf, g1, g2, g3⟩ := am_hf_ok h
        refine ⟨⟨a, z, hq, t⟩ :: pre, x, suf, by show (⟨a, z, hq, t⟩ : ExceptionTableEntry) :: tableOf r = _; rw [g1]; rfl, fun y hy => ?_, g3⟩
        rcases List.mem_cons.mp hy with rfl | hy
        · by_cases hc : covers ⟨a, z, hq, t⟩ pc = true
          · refine Or.inr ⟨fun ht => ?_, ?_⟩
            · have ht : t = am_ct E := ht
              subst ht
              have hb : Nat.beq (am_ct E) (am_ct E) = true := Nat.beq_refl _
              rw [hb, Bool.and_true] at h1
              have : covers ⟨a, z, hq, am_ct E⟩ pc = (Nat.ble a pc && Nat.blt pc z) := by
                unfold covers
                rw [Bool.eq_iff_iff]
                simp [Nat.blt_eq]
              rw [this, h1] at hc
              cases hc
            · rcases h2 with h2 | h2
              · exact Or.inl (Nat.eq_of_beq_eq_true h2)
              · exact Or.inr (Nat.eq_of_beq_eq_true h2)
          · exact Or.inl (by simpa using hc)
        · exact g2 y hy
      · cases h
section AMK
variable {p : Program} {l : Launch} {e : Env} {R : Room} {s : State} {m : MethodId} {args : Array Value} {below : List Frame} {meth : Method} {c : Code} {H : Heap} {locs : List Loc} {cells slots : Nat} {Q : State → Prop}
variable {pc E hp : Nat} {LS : Array Slot} {rest : List Value} {dC : Nat → ClassId} {dI : Nat → Nat → Nat} {cA : Nat → ClassId} {hh : List (Nat × Nat × Nat × Nat)} {ce : Cell} {q9 : Addr}
theorem am_cat_ok (hown : s.vm.findClass RL = some m.cls) (hts : ∀ w ∈ am_good, w.before args s = true) (hI : am_Inv dC dI cA s) (ht : c.exceptionTable.toList = tableOf hh) (hE : E < 2) (h : am_hf E pc hh = some hp) (hce : H[q9]? = some ce) (hcv : ce.vm = .none) (hcl : s.vm.findClass (am_xn E) = some ce.cls)
    (kk : W p l e R s m args below meth c H locs cells slots Q (F0 m hp LS [.ref q9])) : vx_W p l e R s m args below meth c H locs cells slots Q (F0 m pc LS rest) q9 := by
  have z := am_t6
  simp only [List.all_cons, List.all_nil, Bool.and_true, Bool.and_eq_true, decide_eq_true_eq] at z
  obtain ⟨-, -, -, -, z5, z6, z7, z8⟩ := z
  have gd : ∀ w, w ∈ tables_1 → goodWord w = true → w.before args s = true := fun w h g => hts w (am_good_in (List.mem_append_right _ h) g)
  have l13 := gd _ z5 rfl
  have l28 := gd _ z6 rfl
  have c0 := va_Nw.use (A := args) rfl (hI.2.1 _ (am_nests_in (List.mem_append_right _ z8) rfl))
  have c1 := va_Nw.use (A := args) rfl (hI.2.1 _ (am_nests_in (List.mem_append_right _ z7) rfl))
  obtain ⟨pre, x, suf, g1, g2, g3, g4, g5⟩ := am_hf_ok h
  subst g5
  have hE2 : E = 0 ∨ E = 1 := by omega
  rcases hE2 with rfl | rfl
  · refine vx_catch (name := "java/util/NoSuchElementException") hown pre x suf (by rw [ht, g1]) (fun z hz => ?_) g3 (by rw [g4]; decide) (by rw [g4]; exact l28) c0 hce hcv hcl kk
    rcases g2 z hz with g | ⟨gn, g | g⟩
    · exact Or.inl g
    · exact Or.inr ⟨by rw [g]; decide, _, by rw [g]; exact l13, hI.2.2.2.1⟩
    · exact absurd g gn
  · refine vx_catch (name := "java/lang/IllegalArgumentException") hown pre x suf (by rw [ht, g1]) (fun z hz => ?_) g3 (by rw [g4]; decide) (by rw [g4]; exact l13) c1 hce hcv hcl kk
    rcases g2 z hz with g | ⟨gn, g | g⟩
    · exact Or.inl g
    · exact absurd g gn
    · exact Or.inr ⟨by rw [g]; decide, _, by rw [g]; exact l28, hI.2.2.2.2⟩
end AMK
