/-! What is made: objects and rows; all of what touches the world -/
theorem am_z_ne {α : Type} {f : Nat → Nat → α} {o o' : Nat} {v : α} (h : o' ≠ o) : am_z f o v o' = f o' := by
  funext q
  simp [am_z, h]
theorem am_z_at {α : Type} {f : Nat → Nat → α} {o k : Nat} {v : α} : am_z f o v o k = v := by simp [am_z]
theorem am_wf_grow {w : am_W} {s : am_K} (h : am_wf w) : am_wf (am_grow w s) := by
  intro o k q hq
  unfold am_grow at hq ⊢
  dsimp only at hq ⊢
  simp only [List.length_append, List.length_cons, List.length_nil]
  by_cases ho : o = w.1.length
  · subst ho
    rw [show am_z w.2.2.2 w.1.length none w.1.length k = none from am_z_at] at hq
    cases hq
  · rw [am_z_ne ho] at hq
    have := h o k q hq
    omega
theorem am_fv_agr {ad ad' : Nat → Nat} {w w' : am_W} {o f : Nat} {ty : FieldType} (hw : am_wf w) (ha : am_ag0 w.1.length ad ad') (h1 : w'.2.1 o = w.2.1 o) (h2 : w'.2.2.1 o = w.2.2.1 o) (h3 : w'.2.2.2 o = w.2.2.2 o) : am_fv ad' w' o f ty = am_fv ad w o f ty := by
  have hm : (w.2.2.2 o f).map ad' = (w.2.2.2 o f).map ad := by
    cases hq : w.2.2.2 o f with
    | none => rfl
    | some q => simp [ha q (hw o f q hq)]
  cases ty <;> simp only [am_fv, h1, h2, h3, hm]
theorem am_ek_agr {cA : Nat → ClassId} {ad ad' : Nat → Nat} {w w' : am_W} {o : Nat} (hw : am_wf w) (ha : am_ag0 w.1.length ad ad') (h1 : w'.2.1 o = w.2.1 o) (h2 : w'.2.2.1 o = w.2.2.1 o) (h3 : w'.2.2.2 o = w.2.2.2 o) (s : am_K) : am_ek cA ad' w' o s = am_ek cA ad w o s := by
  cases s with
  | inl c =>
    unfold am_ek am_fl
    simp only [am_fv_agr hw ha h1 h2 h3]
  | inr q =>
    obtain ⟨t, L⟩ := q
    have hr : am_row ad' w' o t = am_row ad w o t := by
      unfold am_row
      split
      · rw [h1]
      · rw [h1]
      · rw [h2]
      · congr 5
        funext j
        rw [h3]
        cases hq : w.2.2.2 o j with
        | none => rfl
        | some q => simp [ha q (hw o j q hq)]
    show (.inl (cA t, L, am_row ad' w' o t) : va_E) = .inl (cA t, L, am_row ad w o t)
    rw [hr]
/-- the world with one thing more, at the address q -/
theorem am_ws_grow {cA : Nat → ClassId} {ad : Nat → Nat} {w : am_W} {q : Nat} {s : am_K} (hw : am_wf w) : am_ws cA ad w ++ [(q, am_ek cA (va_up ad w.1.length q) (am_grow w s) w.1.length s)] = am_ws cA (va_up ad w.1.length q) (am_grow w s) := by
  have ha : am_ag0 w.1.length ad (va_up ad w.1.length q) := fun i hi => va_up_ne _ _ (Nat.ne_of_lt hi)
  apply List.ext_getElem?
  intro j
  by_cases hj : j < w.1.length
  · rw [List.getElem?_append_left (by unfold am_ws; simpa using hj)]
    obtain ⟨s', hs'⟩ : ∃ s', w.1[j]? = some s' := ⟨_, List.getElem?_eq_getElem hj⟩
    rw [am_ws_at hs', am_ws_at (w := am_grow w s) (s := s') (by unfold am_grow; rw [List.getElem?_append_left hj]; exact hs'), ha j hj]
    rw [am_ek_agr (w := w) (w' := am_grow w s) hw ha (am_z_ne (Nat.ne_of_lt hj)) (am_z_ne (Nat.ne_of_lt hj)) (am_z_ne (Nat.ne_of_lt hj)) s']
  · by_cases he : j = w.1.length
    · subst he
      rw [List.getElem?_append_right (by unfold am_ws; simp), am_ws_at (w := am_grow w s) (s := s) (by unfold am_grow; simp)]
      simp [am_ws, va_up_self]
    · rw [List.getElem?_eq_none (by unfold am_ws; simp; omega), List.getElem?_eq_none (by unfold am_ws am_grow; simp; omega)]
theorem am_okv_v {b : Nat → Option Nat} {N : Nat} {ad ad' : Nat → Nat} (ha : am_ag0 N ad ad') {v : Value} (h : am_okv N v = true) : am_v b ad' v = am_v b ad v := by
  cases v <;> try rfl
  rename_i q
  show Value.ref (ad' q) = Value.ref (ad q)
  rw [ha q (Nat.blt_eq.mp h)]
theorem am_vld_st {b : Nat → Option Nat} {N : Nat} {ad ad' : Nat → Nat} (ha : am_ag0 N ad ad') {ls : am_L} {st : List Value} (h : am_vld N ls st = true) : st.map (am_v b ad') = st.map (am_v b ad) := by
  unfold am_vld at h
  simp only [Bool.and_eq_true] at h
  exact List.map_congr_left (fun v hv => am_okv_v ha (List.all_eq_true.mp h.2 v hv))
theorem am_al_agr {b : Nat → Option Nat} {N : Nat} {ad ad' : Nat → Nat} (ha : am_ag0 N ad ad') : ∀ {ls : am_L} {i : Nat}, (ls.all (fun x => match x with
  | some v => am_okv N v
  | none => true)) = true → am_al (am_v b ad') i ls = am_al (am_v b ad) i ls
  | [], _, _ => rfl
  | none :: r, i, h => by
    simp only [List.all_cons, Bool.and_eq_true] at h
    rw [am_al, am_al, am_al_agr ha h.2]
  | some v :: r, i, h => by
    simp only [List.all_cons, Bool.and_eq_true] at h
    rw [am_al, am_al, am_al_agr ha h.2, am_okv_v ha h.1]
theorem am_vld_lr {b : Nat → Option Nat} {N : Nat} {ad ad' : Nat → Nat} (ha : am_ag0 N ad ad') {ls : am_L} {st : List Value} {LS : Array Slot} {nL : Nat} (h : am_vld N ls st = true) (hl : am_lr (am_v b ad) ls LS nL) : am_lr (am_v b ad') ls LS nL := by
  unfold am_vld at h
  simp only [Bool.and_eq_true] at h
  unfold am_lr
  rw [am_al_agr ha h.1]
  exact hl
theorem am_nws_big {o : Nat} (h : ¬ o < 21) : am_nws o = [] := by
  match o, h with
  | o + 21, _ => rfl
theorem am_nw_mem {o j : Nat} {q : Nat × Nat} (h : am_lk (am_nws o) j = some q) : q.1 < 13 ∧ Cond.classLink (am_onm o) j (am_cl q.1).1 ∈ lw_tbl := by
  by_cases ho : o < 21
  · have h1 := am_all_in (g := fun o (q : Nat × Nat × Nat) => decide (q.2.1 < 13) && am_is q.2.2 (.classLink (am_onm o) q.1 (am_cl q.2.1).1)) am_nws_ok ho (am_lk_mem h)
    simp only [Bool.and_eq_true, decide_eq_true_eq] at h1
    exact ⟨h1.1, am_is_mem h1.2⟩
  · rw [am_nws_big ho] at h
    cases h
theorem am_arr_ok : [FieldType.int, .boolean, .long].all (fun t => decide (Cond.arrayClass t ∈ tables_1)) = true := by decide +kernel
theorem am_arr {t : FieldType} (h : t = .int ∨ t = .boolean ∨ t = .long) : Cond.arrayClass t ∈ am_good := by
  have h1 := List.all_eq_true.mp am_arr_ok t (by rcases h with rfl | rfl | rfl <;> simp)
  exact am_good_in (List.mem_append_right _ (of_decide_eq_true h1)) rfl
theorem am_K_cA {cA : Nat → ClassId} {D : va_G} {s : State} {c1 : ClassId} {ty : FieldType} {t0 : Nat} {c0 : ClassId} (hK : va_K D vwCl (am_tys cA ++ [(c1, ty)]) s) (ht : (am_tys cA)[t0]? = some (c0, ty)) : c1 = c0 := by
  have h1 := (hK.2 6 (c1, ty) rfl).2
  have h2 := (hK.2 t0 (c0, ty) (by rw [List.getElem?_append_left (List.getElem?_eq_some_iff.mp ht).1]; exact ht)).2
  have hq : ∀ (a z : ClassId), va_RA s a ty → va_RA s z ty → a = z := by
    intro a z ha hz
    cases ty with
    | object C =>
      obtain ⟨_, _, -, -, -, g1⟩ := ha
      obtain ⟨_, _, -, -, -, g2⟩ := hz
      exact Option.some.inj (g1.symm.trans g2)
    | _ => exact Option.some.inj ((show s.vm.findClass _ = some a from ha).symm.trans hz)
  exact hq _ _ h1 h2
theorem am_K_back {cA : Nat → ClassId} {D : va_G} {s : State} {x : ClassId × FieldType} (hK : va_K D vwCl (am_tys cA ++ [x]) s) : va_K D vwCl (am_tys cA) s := hK.sub [0, 1, 2, 3, 4, 5] rfl
theorem am_dflt {ad : Nat → Nat} {w : am_W} {c : Nat} {s : am_K} (hc : c < 13) : ∀ j, j < am_cn c → defaultValue (am_cty c j) = vp_V (am_fl ad (am_grow w s) w.1.length c) j := by
  intro j hj
  have h1 := (am_lay_at hc hj).2
  unfold vp_V
  rw [List.getD_eq_getElem?_getD, am_fl_at hj]
  show defaultValue (am_cty c j) = am_fv ad (am_grow w s) w.1.length j (am_cty c j)
  generalize am_cty c j = ty at h1 ⊢
  unfold am_grow
  cases ty <;> simp only [am_fv, am_z_at] <;> first | rfl | cases h1
theorem am_up_agr0 {w : am_W} {s : am_K} {ad : Nat → Nat} {q : Nat} : am_agr w.1.length (am_grow w s).1.length ad (va_up ad w.1.length q) := fun i hi => va_up_ne _ _ (by unfold am_grow at hi; simp at hi; omega)
theorem am_up_agr1 {w : am_W} {ad : Nat → Nat} {q : Nat} : am_ag0 w.1.length ad (va_up ad w.1.length q) := fun i hi => va_up_ne _ _ (Nat.ne_of_lt hi)
section AMN
variable {p : Program} {l : Launch} {e : Env} {R : Room} {s : State} {m : MethodId} {args : Array Value} {below : List Frame} {meth : Method} {c : Code} {H : Heap} {locs : List Loc} {Q : State → Prop}
variable {cc : ByteArray} {pc : Nat} {b : Nat → Option Nat} {ad : Nat → Nat} {nL : Nat} {dC : Nat → ClassId} {dI : Nat → Nat → Nat} {cA : Nat → ClassId} {A : Nat → Prop} {H0 : Heap} {ls : am_L} {st : List Value} {w : am_W} {k n : Nat} {q : am_S} {LS : Array Slot} {o : Nat} {ini : Bool}
theorem am_nw_ok {j : Nat} (hx : p.tables.exec = Jvm.exec) (hb : c.code = cc) (hown : s.vm.findClass (am_onm o) = some m.cls) (hts : ∀ w ∈ am_good, w.before args s = true) (hK : va_K (dC, dI) vwCl (am_tys cA) s) (hP : va_P (dC, dI) vwCl (am_ws cA ad w) H) (hD : va_D A (am_ws cA ad w)) (hS : va_S A H0 H locs) (hA : ∀ q, H0.size ≤ q → A q) (hw : am_wf w)
    (hd : decode cc pc = .ok (.new j, 3)) (h : am_nw pc ls st w k n (am_lk (am_nws o) j) = some q) (hR : q.2.2.2.2.1 ≤ R.cells ∧ q.2.2.2.2.2 ≤ R.slots) (hl : am_lr (am_v b ad) ls LS nL) (kk : am_kk p l e R s m args below meth c Q b ad nL dC dI cA A H0 w.1.length q) : W p l e R s m args below meth c H locs k n Q (F0 m pc LS (st.map (am_v b ad))) := by
  unfold am_nw at h
  split at h
  · rename_i c1 p1 hq
    obtain ⟨h1, h⟩ := am_if_some h
    obtain ⟨hc, hlk⟩ := am_nw_mem hq
    cases h
    refine va_new (D := (dC, dI)) (ci := c1) (fs := am_fl ad (am_grow w (.inl c1)) w.1.length c1) hx hb hts (am_lays hc) (am_cty c1) (am_ty hc) hown (hts _ (am_good_in hlk rfl)) (hts _ (am_insw hc).1) (hts _ (am_insw hc).2) hK hP hD hS hA (am_vw hc) (am_dflt hc) hR.1 hR.2 hd (fun q9 H1 g1 g2 g3 => ?_)
    have ha := am_up_agr1 (w := w) (ad := ad) (q := q9)
    have he : (.inr (c1, am_fl ad (am_grow w (.inl c1)) w.1.length c1) : va_E) = am_ek cA (va_up ad w.1.length q9) (am_grow w (.inl c1)) w.1.length (.inl c1) := by
      unfold am_ek am_fl
      congr 2
      apply List.map_congr_left
      intro f hf
      unfold am_grow
      cases am_cty c1 f <;> simp only [am_fv, am_z_at] <;> rfl
    rw [he, am_ws_grow hw] at g1 g2
    have k2 := kk (va_up ad w.1.length q9) H1 locs LS am_up_agr0 g1 g2 g3 (am_vld_lr ha h1 hl)
    rw [List.map_cons, am_vld_st ha h1] at k2
    rw [show am_v b (va_up ad w.1.length q9) (.ref w.1.length) = .ref q9 from by show Value.ref (va_up ad w.1.length q9 w.1.length) = _; rw [va_up_self]] at k2
    exact k2
  · cases h
theorem am_na_ok {t : ArrayType} (hx : p.tables.exec = Jvm.exec) (hb : c.code = cc) (hts : ∀ w ∈ am_good, w.before args s = true) (hK : va_K (dC, dI) vwCl (am_tys cA) s) (hP : va_P (dC, dI) vwCl (am_ws cA ad w) H) (hD : va_D A (am_ws cA ad w)) (hS : va_S A H0 H locs) (hA : ∀ q, H0.size ≤ q → A q) (hw : am_wf w)
    (hd : decode cc pc = .ok (.newarray t, 2)) (h : am_na t pc ls st w k n = some q) (hR : q.2.2.2.2.1 ≤ R.cells ∧ q.2.2.2.2.2 ≤ R.slots) (hl : am_lr (am_v b ad) ls LS nL) (kk : am_kk p l e R s m args below meth c Q b ad nL dC dI cA A H0 w.1.length q) : W p l e R s m args below meth c H locs k n Q (F0 m pc LS (st.map (am_v b ad))) := by
  unfold am_na at h
  split at h
  · rename_i L r
    split at h
    · rename_i t' ht
      obtain ⟨h1, h⟩ := am_if_some h
      cases h
      simp only [Bool.and_eq_true, decide_eq_true_eq] at h1
      obtain ⟨⟨h1, h2⟩, h3⟩ := h1
      have h3 : L.toNatClampNeg < 1000000 := Nat.blt_eq.mp h3
      have key : ∀ (t0 : Nat) (ty : FieldType) (a0 : vp_A), newarray.typeOf t = ty → (am_tys cA)[t0]? = some (cA t', ty) → (ty = .int ∨ ty = .boolean ∨ ty = .long) → (∀ cA1 : ClassId, vp_cell cA1 a0 = arrV cA1 L.toNatClampNeg (fun _ => defaultValue ty)) →
          (∀ ad', (.inl (cA t', a0) : va_E) = am_ek cA ad' (am_grow w (.inr (t', L.toNatClampNeg))) w.1.length (.inr (t', L.toNatClampNeg))) → W p l e R s m args below meth c H locs k n Q (F0 m pc LS ((Value.int L :: r).map (am_v b ad))) := by
        intro t0 ty a0 hty ht0 hty2 ha0 hen
        refine va_newa (D := (dC, dI)) (atype := t) (ty := ty) hx hb (hts _ (by rw [hty]; exact am_arr hty2)) hty hK hP hD hS hA ha0 h2 rfl (by rcases hty2 with rfl | rfl | rfl <;> simp only [componentBytes] <;> omega) hR.1 hR.2 hd (fun q9 cA1 H1 g0 g1 g2 g3 => ?_)
        have hcc := am_K_cA g0 ht0
        subst hcc
        have ha := am_up_agr1 (w := w) (ad := ad) (q := q9)
        rw [hen (va_up ad w.1.length q9), am_ws_grow hw] at g1 g2
        have k2 := kk (va_up ad w.1.length q9) H1 locs LS am_up_agr0 g1 g2 g3 (am_vld_lr ha h1 hl)
        rw [List.map_cons, am_vld_st ha h1] at k2
        rw [show am_v b (va_up ad w.1.length q9) (.ref w.1.length) = .ref q9 from by show Value.ref (va_up ad w.1.length q9 w.1.length) = _; rw [va_up_self]] at k2
        exact k2
      have z1 : (am_z w.2.1 w.1.length (0 : Int32)) w.1.length = fun _ => 0 := by funext j; exact am_z_at
      have z2 : (am_z w.2.2.1 w.1.length (0 : Int64)) w.1.length = fun _ => 0 := by funext j; exact am_z_at
      cases t <;> simp only [am_at] at ht <;> try (cases ht; done)
      · cases ht
        exact key 1 .boolean (L.toNatClampNeg, .inl (fun _ => 0)) rfl rfl (Or.inr (Or.inl rfl)) (fun _ => rfl) (fun ad' => by unfold am_ek am_row am_grow; simp only [z1])
      · cases ht
        exact key 0 .int (L.toNatClampNeg, .inl (fun _ => 0)) rfl rfl (Or.inl rfl) (fun _ => rfl) (fun ad' => by unfold am_ek am_row am_grow; simp only [z1])
      · cases ht
        exact key 2 .long (L.toNatClampNeg, .inr (.inl (fun _ => 0))) rfl rfl (Or.inr (Or.inr rfl)) (fun _ => rfl) (fun ad' => by unfold am_ek am_row am_grow; simp only [z2])
    · cases h
  · cases h
theorem am_nq_ok {j : Nat} (hx : p.tables.exec = Jvm.exec) (hb : c.code = cc) (hown : s.vm.findClass (am_onm o) = some m.cls) (hts : ∀ w ∈ am_good, w.before args s = true) (hAO : ∀ t p c, am_tp t = some (p, c) → va_AO (am_cl c).1 s) (hK : va_K (dC, dI) vwCl (am_tys cA) s) (hP : va_P (dC, dI) vwCl (am_ws cA ad w) H) (hD : va_D A (am_ws cA ad w)) (hS : va_S A H0 H locs) (hA : ∀ q, H0.size ≤ q → A q) (hw : am_wf w)
    (hd : decode cc pc = .ok (.anewarray j, 3)) (h : am_nq pc ls st w k n (am_lk (am_nws o) j) = some q) (hR : q.2.2.2.2.1 ≤ R.cells ∧ q.2.2.2.2.2 ≤ R.slots) (hl : am_lr (am_v b ad) ls LS nL) (kk : am_kk p l e R s m args below meth c Q b ad nL dC dI cA A H0 w.1.length q) : W p l e R s m args below meth c H locs k n Q (F0 m pc LS (st.map (am_v b ad))) := by
  unfold am_nq at h
  split at h
  · rename_i c1 p1 hq
    obtain ⟨hc, hlk⟩ := am_nw_mem hq
    split at h
    · rename_i L r
      split at h
      · rename_i z ht
        obtain ⟨p2, c2⟩ := z
        obtain ⟨h1, h⟩ := am_if_some h
        cases h
        simp only [Bool.and_eq_true, decide_eq_true_eq] at h1
        obtain ⟨⟨h1, h2⟩, h3⟩ := h1
        have h3 : L.toNatClampNeg < 1000000 := Nat.blt_eq.mp h3
        obtain ⟨e1, e2, e3⟩ := am_tp_at (cA := cA) ht
        have e3 : c2 = c1 := by omega
        subst e3
        refine va_newq (D := (dC, dI)) hx hb hown (hts _ (am_good_in hlk rfl)) (hAO _ _ _ ht) hK hP hD hS hA h2 rfl (by omega) hR.1 hR.2 hd (fun q9 cA1 H1 g0 g1 g2 g3 => ?_)
        have hcc := am_K_cA g0 e1
        subst hcc
        have ha := am_up_agr1 (w := w) (ad := ad) (q := q9)
        have z3 : ∀ j, (am_z w.2.2.2 w.1.length (none : Option Nat)) w.1.length j = none := fun j => am_z_at
        have hen : (.inl (cA (3 + c2), L.toNatClampNeg, .inr (.inr (.inr (.inr (fun _ => none))))) : va_E) = am_ek cA (va_up ad w.1.length q9) (am_grow w (.inr (3 + c2, L.toNatClampNeg))) w.1.length (.inr (3 + c2, L.toNatClampNeg)) := by
          unfold am_ek
          dsimp only
          rw [am_tp_row ht]
          unfold am_grow
          simp only [z3, Option.map_none]
        rw [hen, am_ws_grow hw] at g1 g2
        have k2 := kk (va_up ad w.1.length q9) H1 locs LS am_up_agr0 g1 g2 g3 (am_vld_lr ha h1 hl)
        rw [List.map_cons, am_vld_st ha h1] at k2
        rw [show am_v b (va_up ad w.1.length q9) (.ref w.1.length) = .ref q9 from by show Value.ref (va_up ad w.1.length q9 w.1.length) = _; rw [va_up_self]] at k2
        exact k2
      · cases h
    · cases h
  · cases h
theorem am_he_ok {i : Instr} {len : Nat} (hx : p.tables.exec = Jvm.exec) (hb : c.code = cc) (hown : s.vm.findClass (am_onm o) = some m.cls) (hini : ini = true → meth.name = "<init>") (hts : ∀ w ∈ am_good, w.before args s = true) (hnx : ∀ w ∈ am_nests, va_Nw w s) (hAO : ∀ t p c, am_tp t = some (p, c) → va_AO (am_cl c).1 s) (hK : va_K (dC, dI) vwCl (am_tys cA) s) (hP : va_P (dC, dI) vwCl (am_ws cA ad w) H) (hD : va_D A (am_ws cA ad w)) (hS : va_S A H0 H locs) (hA : ∀ q, H0.size ≤ q → A q) (hw : am_wf w)
    (hd : decode cc pc = .ok (i, len)) (h : am_he o ini i len pc ls st w k n = some q) (hR : q.2.2.2.2.1 ≤ R.cells ∧ q.2.2.2.2.2 ≤ R.slots) (hl : am_lr (am_v b ad) ls LS nL) (kk : am_kk p l e R s m args below meth c Q b ad nL dC dI cA A H0 w.1.length q) : W p l e R s m args below meth c H locs k n Q (F0 m pc LS (st.map (am_v b ad))) := by
  unfold am_he at h
  split at h
  · obtain ⟨rfl, h⟩ := am_ck_some h
    exact am_gf_ok hx hb hown hts hnx hK hP hD hS hd h hl kk
  · obtain ⟨rfl, h⟩ := am_ck_some h
    exact am_pf_ok hx hb hown hini hts hnx hK hP hD hS hd h hl kk
  · obtain ⟨rfl, h⟩ := am_ck_some h
    exact am_ia_ok hx hb hK hP hD hS hd h hl kk
  · obtain ⟨rfl, h⟩ := am_ck_some h
    exact am_za_ok hx hb hK hP hD hS hd h hl kk
  · obtain ⟨rfl, h⟩ := am_ck_some h
    exact am_la_ok hx hb hK hP hD hS hd h hl kk
  · obtain ⟨rfl, h⟩ := am_ck_some h
    exact am_qa_ok hx hb hK hP hD hS hd h hl kk
  · obtain ⟨rfl, h⟩ := am_ck_some h
    exact am_is1_ok hx hb hK hP hD hS hd h hl kk
  · obtain ⟨rfl, h⟩ := am_ck_some h
    exact am_zs_ok hx hb hK hP hD hS hd h hl kk
  · obtain ⟨rfl, h⟩ := am_ck_some h
    exact am_ls_ok hx hb hK hP hD hS hd h hl kk
  · obtain ⟨rfl, h⟩ := am_ck_some h
    exact am_qs_ok hx hb hK hP hD hS hd h hl kk
  · obtain ⟨rfl, h⟩ := am_ck_some h
    split at h
    · rename_i r hr
      cases h
      exact am_al1_ok hx hb hK hP hD hS hd hr hl kk
    · exact am_al2_ok hx hb hK hP hD hS hd h hl kk
  · obtain ⟨rfl, h⟩ := am_ck_some h
    exact am_nw_ok hx hb hown hts hK hP hD hS hA hw hd h hR hl kk
  · obtain ⟨rfl, h⟩ := am_ck_some h
    exact am_na_ok hx hb hts hK hP hD hS hA hw hd h hR hl kk
  · obtain ⟨rfl, h⟩ := am_ck_some h
    exact am_nq_ok hx hb hown hts hAO hK hP hD hS hA hw hd h hR hl kk
  · cases h
end AMN
