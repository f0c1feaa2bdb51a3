/-! What touches the world: the machine does what the abstract one does -/
theorem am_decl_ok : (List.range 13).all (fun c => decide ((am_cl c).1 = am_onm c) && (List.range (am_cn c)).all (fun f => decide (((am_cl c).2.1 f).1 = (am_cl c).1))) = true := by decide +kernel
theorem am_decl {c f : Nat} (hc : c < 13) (hf : f < am_cn c) : ((am_cl c).2.1 f).1 = (am_cl c).1 := by
  have h := List.all_eq_true.mp am_decl_ok c (List.mem_range.mpr hc)
  simp only [Bool.and_eq_true] at h
  exact of_decide_eq_true (List.all_eq_true.mp h.2 f (List.mem_range.mpr hf))
theorem am_cnm {c : Nat} (hc : c < 13) : (am_cl c).1 = am_onm c := by
  have h := List.all_eq_true.mp am_decl_ok c (List.mem_range.mpr hc)
  simp only [Bool.and_eq_true] at h
  exact of_decide_eq_true h.1
theorem am_fd_ok {o : Nat} {q : Nat × Nat × Nat × Nat} (h : q ∈ am_fds o) : am_fok o q = true := by
  unfold am_fds at h
  split at h
  · exact List.all_eq_true.mp am_fo0 q h
  · exact List.all_eq_true.mp am_fo1 q h
  · exact List.all_eq_true.mp am_fo2 q h
  · exact List.all_eq_true.mp am_fo3 q h
  · exact List.all_eq_true.mp am_fo4 q h
  · exact List.all_eq_true.mp am_fo5 q h
  · exact List.all_eq_true.mp am_fo6 q h
  · exact List.all_eq_true.mp am_fo7 q h
  · exact List.all_eq_true.mp am_fo8 q h
  · exact List.all_eq_true.mp am_fo9 q h
  · exact List.all_eq_true.mp am_fo10 q h
  · exact List.all_eq_true.mp am_fo11 q h
  · exact List.all_eq_true.mp am_fo12 q h
  · exact List.all_eq_true.mp am_fo13 q h
  · exact List.all_eq_true.mp am_fo14 q h
  · exact List.all_eq_true.mp am_fo15 q h
  · exact List.all_eq_true.mp am_fo16 q h
  · exact List.all_eq_true.mp am_fo17 q h
  · exact List.all_eq_true.mp am_fo18 q h
  · exact List.all_eq_true.mp am_fo19 q h
  · exact List.all_eq_true.mp am_fo20 q h
  · cases h
def am_nestw : Cond → Bool
  | .fieldLinkNest .. => true
  | .methodLinkNest .. => true
  | .castable .. => true
  | .declares .. => true
  | _ => false
def am_nests : List Cond := lw_tbl.filter am_nestw
theorem am_nests_in {w : Cond} (h : w ∈ lw_tbl) (hg : am_nestw w = true) : w ∈ am_nests := List.mem_filter.mpr ⟨h, hg⟩
theorem am_v_rf {b : Nat → Option Nat} {ad : Nat → Nat} {x : Option Nat} : am_v b ad (va_rf x) = va_rf (x.map ad) := by cases x <;> rfl
theorem am_v_rd {b : Nat → Option Nat} {ad : Nat → Nat} {w : am_W} {o f : Nat} {ty : FieldType} : am_v b ad (am_rd w o f ty) = am_fv ad w o f ty := by
  cases ty <;> first | rfl | exact am_v_rf
theorem am_ek_eq {cA : Nat → ClassId} {ad : Nat → Nat} {w w' : am_W} {o : Nat} (h1 : w'.2.1 o = w.2.1 o) (h2 : w'.2.2.1 o = w.2.2.1 o) (h3 : w'.2.2.2 o = w.2.2.2 o) (s : am_K) : am_ek cA ad w' o s = am_ek cA ad w o s := by
  have hf : ∀ f ty, am_fv ad w' o f ty = am_fv ad w o f ty := by
    intro f ty
    cases ty <;> simp only [am_fv, h1, h2, h3]
  cases s with
  | inl c =>
    unfold am_ek am_fl
    simp only [hf]
  | inr q =>
    obtain ⟨t, L⟩ := q
    have hr : am_row ad w' o t = am_row ad w o t := by
      unfold am_row
      split <;> simp only [h1, h2, h3]
    show (.inl (cA t, L, am_row ad w' o t) : va_E) = .inl (cA t, L, am_row ad w o t)
    rw [hr]
theorem am_wr_ok {cA : Nat → ClassId} {b : Nat → Option Nat} {ad : Nat → Nat} {w w' : am_W} {o f : Nat} {ty : FieldType} {v : Value} (h : am_wr w o f ty v = some w') :
    w'.1 = w.1 ∧ narrow ty (am_v b ad v) = am_v b ad v ∧ fits ty (am_v b ad v) = true ∧ (∀ (o' : Nat) (s' : am_K), o' ≠ o → am_ek cA ad w' o' s' = am_ek cA ad w o' s') ∧ (∀ (f' : Nat) (ty' : FieldType), f' ≠ f → am_fv ad w' o f' ty' = am_fv ad w o f' ty') ∧ am_v b ad v = am_fv ad w' o f ty := by
  have k1 : ∀ x : Int32, ∀ (o' : Nat) (s' : am_K), o' ≠ o → am_ek cA ad (w.1, am_u w.2.1 o f x, w.2.2.1, w.2.2.2) o' s' = am_ek cA ad w o' s' := fun x o' s' hne => am_ek_eq (w' := (w.1, am_u w.2.1 o f x, w.2.2.1, w.2.2.2)) (w := w) (am_u_ne hne) rfl rfl s'
  have k2 : ∀ x : Int64, ∀ (o' : Nat) (s' : am_K), o' ≠ o → am_ek cA ad (w.1, w.2.1, am_u w.2.2.1 o f x, w.2.2.2) o' s' = am_ek cA ad w o' s' := fun x o' s' hne => am_ek_eq (w' := (w.1, w.2.1, am_u w.2.2.1 o f x, w.2.2.2)) (w := w) rfl (am_u_ne hne) rfl s'
  have k3 : ∀ x : Option Nat, ∀ (o' : Nat) (s' : am_K), o' ≠ o → am_ek cA ad (w.1, w.2.1, w.2.2.1, am_u w.2.2.2 o f x) o' s' = am_ek cA ad w o' s' := fun x o' s' hne => am_ek_eq (w' := (w.1, w.2.1, w.2.2.1, am_u w.2.2.2 o f x)) (w := w) rfl rfl (am_u_ne hne) s'
  have g1 : ∀ x : Int32, ∀ (f' : Nat) (ty' : FieldType), f' ≠ f → am_fv ad (w.1, am_u w.2.1 o f x, w.2.2.1, w.2.2.2) o f' ty' = am_fv ad w o f' ty' := by
    intro x f' ty' hne
    cases ty' <;> simp only [am_fv, am_u_nk hne]
  have g2 : ∀ x : Int64, ∀ (f' : Nat) (ty' : FieldType), f' ≠ f → am_fv ad (w.1, w.2.1, am_u w.2.2.1 o f x, w.2.2.2) o f' ty' = am_fv ad w o f' ty' := by
    intro x f' ty' hne
    cases ty' <;> simp only [am_fv, am_u_nk hne]
  have g3 : ∀ x : Option Nat, ∀ (f' : Nat) (ty' : FieldType), f' ≠ f → am_fv ad (w.1, w.2.1, w.2.2.1, am_u w.2.2.2 o f x) o f' ty' = am_fv ad w o f' ty' := by
    intro x f' ty' hne
    cases ty' <;> simp only [am_fv, am_u_nk hne]
  unfold am_wr at h
  split at h
  · split at h
    · cases h
      exact ⟨rfl, rfl, rfl, k1 _, g1 _, by simp only [am_v, am_fv, am_u_at]⟩
    · cases h
  · split at h
    · obtain ⟨hx, h⟩ := am_if_some h
      cases h
      simp only [Bool.or_eq_true, decide_eq_true_eq] at hx
      refine ⟨rfl, ?_, ?_, k1 _, g1 _, by simp only [am_v, am_fv, am_u_at]⟩
      · rcases hx with rfl | rfl <;> rfl
      · rcases hx with rfl | rfl <;> rfl
    · cases h
  · split at h
    · cases h
      exact ⟨rfl, rfl, rfl, k2 _, g2 _, by simp only [am_v, am_fv, am_u_at]⟩
    · cases h
  · split at h
    · obtain ⟨hx, h⟩ := am_if_some h
      cases h
      exact ⟨rfl, rfl, rfl, k3 _, g3 _, by simp only [am_v, am_fv, am_u_at]; rfl⟩
    · cases h
      exact ⟨rfl, rfl, rfl, k3 _, g3 _, by simp only [am_v, am_fv, am_u_at]; rfl⟩
    · cases h
  · split at h
    · obtain ⟨hx, h⟩ := am_if_some h
      cases h
      exact ⟨rfl, rfl, rfl, k3 _, g3 _, by simp only [am_v, am_fv, am_u_at]; rfl⟩
    · cases h
      exact ⟨rfl, rfl, rfl, k3 _, g3 _, by simp only [am_v, am_fv, am_u_at]; rfl⟩
    · cases h
  · cases h
theorem am_in_ok {i : Int32} {n : Nat} (h : am_in i n = true) : vp_in i n := by
  unfold am_in at h
  unfold vp_in
  exact of_decide_eq_true h
theorem am_upd {f : Nat → Nat → Int32} {o k : Nat} {v : Int32} : upd (f o) k v = am_u f o k v o := by funext q; simp [upd, am_u]
theorem am_updL {f : Nat → Nat → Int64} {o k : Nat} {v : Int64} : vp_updL (f o) k v = am_u f o k v o := by funext q; simp [vp_updL, am_u]
theorem am_updQ {ad : Nat → Nat} {f : Nat → Nat → Option Nat} {o k v : Nat} : va_up (fun j => (f o j).map ad) k (some (ad v)) = fun j => (am_u f o k (some v) o j).map ad := by
  funext q
  by_cases h : q = k
  · simp [va_up, am_u, h]
  · simp [va_up, am_u, h]
theorem am_tp_at {cA : Nat → ClassId} {t p c : Nat} (h : am_tp t = some (p, c)) : (am_tys cA)[p]? = some (cA t, .object (am_cl c).1) ∧ c < 13 ∧ t = 3 + c := by
  unfold am_tp at h
  split at h <;> cases h <;> exact ⟨rfl, by decide, rfl⟩
theorem am_tp_row {ad : Nat → Nat} {w : am_W} {o t p c : Nat} (h : am_tp t = some (p, c)) : am_row ad w o t = .inr (.inr (.inr (.inr (fun j => (w.2.2.2 o j).map ad)))) := by
  unfold am_tp at h
  split at h <;> cases h <;> rfl
def am_ag0 (n : Nat) (ad ad' : Nat → Nat) : Prop := ∀ i, i < n → ad' i = ad i
/-- other addresses for new things alone -/
def am_agr (n n' : Nat) (ad ad' : Nat → Nat) : Prop := ∀ i, (i < n ∨ n' ≤ i) → ad' i = ad i
theorem am_agr_rf {n n' : Nat} {ad : Nat → Nat} : am_agr n n' ad ad := fun _ _ => rfl
theorem am_agr.lo {n n' : Nat} {ad ad' : Nat → Nat} (h : am_agr n n' ad ad') : am_ag0 n ad ad' := fun i hi => h i (Or.inl hi)
theorem am_agr.eq {n : Nat} {ad ad' : Nat → Nat} (h : am_agr n n ad ad') : ad' = ad := by
  funext i
  exact h i (by omega)
theorem am_agr.tr {n n1 n2 : Nat} {a a1 a2 : Nat → Nat} (h : am_agr n n1 a a1) (g : am_agr n1 n2 a1 a2) (h1 : n ≤ n1) (h2 : n1 ≤ n2) : am_agr n n2 a a2 := fun i hi => by
  rw [g i (by omega), h i (by omega)]
section AMH
variable {p : Program} {l : Launch} {e : Env} {R : Room} {s : State} {m : MethodId} {args : Array Value} {below : List Frame} {meth : Method} {c : Code} {H : Heap} {locs : List Loc} {Q : State → Prop}
variable {cc : ByteArray} {pc : Nat} {b : Nat → Option Nat} {ad : Nat → Nat} {nL : Nat} {dC : Nat → ClassId} {dI : Nat → Nat → Nat} {cA : Nat → ClassId} {A : Nat → Prop} {H0 : Heap} {ls : am_L} {st : List Value} {w : am_W} {k n : Nat} {q : am_S} {LS : Array Slot} {o : Nat} {ini : Bool}
/-- what goes on behind an instruction -/
abbrev am_kk (p : Program) (l : Launch) (e : Env) (R : Room) (s : State) (m : MethodId) (args : Array Value) (below : List Frame) (meth : Method) (c : Code) (Q : State → Prop) (b : Nat → Option Nat) (ad : Nat → Nat) (nL : Nat) (dC : Nat → ClassId) (dI : Nat → Nat → Nat) (cA : Nat → ClassId) (A : Nat → Prop) (H0 : Heap) (N : Nat) (q : am_S) : Prop :=
  ∀ (ad' : Nat → Nat) (H1 : Heap) (locs1 : List Loc) (LS1 : Array Slot), am_agr N q.2.2.2.1.1.length ad ad' → va_P (dC, dI) vwCl (am_ws cA ad' q.2.2.2.1) H1 → va_D A (am_ws cA ad' q.2.2.2.1) → va_S A H0 H1 locs1 → am_lr (am_v b ad') q.2.1 LS1 nL →
    W p l e R s m args below meth c H1 locs1 q.2.2.2.2.1 q.2.2.2.2.2 Q (F0 m q.1 LS1 (q.2.2.1.map (am_v b ad')))
theorem am_gf_ok {j : Nat} (hx : p.tables.exec = Jvm.exec) (hb : c.code = cc) (hown : s.vm.findClass (am_onm o) = some m.cls) (hts : ∀ w ∈ am_good, w.before args s = true) (hnx : ∀ w ∈ am_nests, va_Nw w s) (hK : va_K (dC, dI) vwCl (am_tys cA) s) (hP : va_P (dC, dI) vwCl (am_ws cA ad w) H) (hD : va_D A (am_ws cA ad w)) (hS : va_S A H0 H locs)
    (hd : decode cc pc = .ok (.getfield j, 3)) (h : am_gf pc ls st w k n (am_lk (am_fds o) j) = some q) (hl : am_lr (am_v b ad) ls LS nL) (kk : am_kk p l e R s m args below meth c Q b ad nL dC dI cA A H0 w.1.length q) : W p l e R s m args below meth c H locs k n Q (F0 m pc LS (st.map (am_v b ad))) := by
  unfold am_gf at h
  split at h
  · rename_i c1 f1 p1 hq
    have hf := am_fd_ok (am_lk_mem hq)
    unfold am_fok at hf
    simp only [Bool.and_eq_true, decide_eq_true_eq] at hf
    obtain ⟨⟨hc, hfn⟩, hlk⟩ := hf
    split at h
    · split at h
      · rename_i a r _ c2 hs
        obtain ⟨h1, h⟩ := am_if_some h
        cases h
        have e := Nat.eq_of_beq_eq_true h1
        subst e
        have k2 := kk ad H locs LS am_agr_rf hP hD hS hl
        rw [List.map_cons, am_v_rd] at k2
        have hsame : ∀ x, s.fieldFound? ((am_cl c2).2.1 f1).1 ((am_cl c2).2.1 f1).2.1 ((am_cl c2).2.1 f1).2.2.1 = some x → s.fieldFound? (am_cl c2).1 ((am_cl c2).2.1 f1).2.1 ((am_cl c2).2.1 f1).2.2.1 = some x := by
          rw [am_decl hc hfn]
          exact fun _ h9 => h9
        by_cases ho : o = c2
        · rw [if_pos ho] at hlk
          exact va_get (own := am_onm o) (ref := (am_cl c2).1) hx hb hts (am_lays hc) hown hK hP a (am_ws_at hs) (am_vw hc) f1 hfn (hts _ (am_good_in (am_is_mem hlk) rfl)) hsame (am_fl_at hfn) hd k2
        · rw [if_neg ho] at hlk
          exact va_getN (own := am_onm o) (ref := (am_cl c2).1) (host := "PrunedParses") hx hb hts (am_lays hc) hown hK hP a (am_ws_at hs) (am_vw hc) f1 hfn (va_Nw.use rfl (hnx _ (am_nests_in (am_is_mem hlk) rfl))) hsame (am_fl_at hfn) hd k2
      · cases h
    · cases h
  · cases h
theorem am_pf_ok {j : Nat} (hx : p.tables.exec = Jvm.exec) (hb : c.code = cc) (hown : s.vm.findClass (am_onm o) = some m.cls) (hini : ini = true → meth.name = "<init>") (hts : ∀ w ∈ am_good, w.before args s = true) (hnx : ∀ w ∈ am_nests, va_Nw w s) (hK : va_K (dC, dI) vwCl (am_tys cA) s) (hP : va_P (dC, dI) vwCl (am_ws cA ad w) H) (hD : va_D A (am_ws cA ad w)) (hS : va_S A H0 H locs)
    (hd : decode cc pc = .ok (.putfield j, 3)) (h : am_pf o ini pc ls st w k n (am_lk (am_fds o) j) = some q) (hl : am_lr (am_v b ad) ls LS nL) (kk : am_kk p l e R s m args below meth c Q b ad nL dC dI cA A H0 w.1.length q) : W p l e R s m args below meth c H locs k n Q (F0 m pc LS (st.map (am_v b ad))) := by
  unfold am_pf at h
  split at h
  · rename_i c1 f1 p1 hq
    have hf := am_fd_ok (am_lk_mem hq)
    unfold am_fok at hf
    simp only [Bool.and_eq_true, decide_eq_true_eq] at hf
    obtain ⟨⟨hc, hfn⟩, hlk⟩ := hf
    split at h
    · split at h
      · rename_i v a r _ c2 hs
        obtain ⟨h1, h⟩ := am_if_some h
        simp only [Bool.and_eq_true] at h1
        have e := Nat.eq_of_beq_eq_true h1.1
        subst e
        split at h
        · rename_i w' hw
          cases h
          obtain ⟨e1, e2, e3, e4, e5, e6⟩ := am_wr_ok (cA := cA) (b := b) (ad := ad) hw
          have hset : (am_ws cA ad w).set a (ad a, .inr (c2, (am_fl ad w a c2).set f1 (am_v b ad v))) = am_ws cA ad w' := by
            rw [am_fl_set (fun f' hne => e5 f' _ hne) e6]
            exact am_ws_set (s := .inl c2) e1 hs e4
          have hsame : ∀ x, s.fieldFound? ((am_cl c2).2.1 f1).1 ((am_cl c2).2.1 f1).2.1 ((am_cl c2).2.1 f1).2.2.1 = some x → s.fieldFound? (am_cl c2).1 ((am_cl c2).2.1 f1).2.1 ((am_cl c2).2.1 f1).2.2.1 = some x := by
            rw [am_decl hc hfn]
            exact fun _ h9 => h9
          have k2 : ∀ (H1 : Heap) (locs1 : List Loc), va_P (dC, dI) vwCl ((am_ws cA ad w).set a (ad a, .inr (c2, (am_fl ad w a c2).set f1 (am_v b ad v)))) H1 → va_D A ((am_ws cA ad w).set a (ad a, .inr (c2, (am_fl ad w a c2).set f1 (am_v b ad v)))) → va_S A H0 H1 locs1 → W p l e R s m args below meth c H1 locs1 k n Q (F0 m (pc + 3) LS (r.map (am_v b ad))) := by
            intro H1 locs1 g1 g2 g3
            rw [hset] at g1 g2
            exact kk ad H1 locs1 LS am_agr_rf g1 g2 g3 hl
          by_cases ho : o = c2
          · rw [if_pos ho] at hlk
            by_cases hfi : am_fin c2 f1 = true
            · have h2 := h1.2
              rw [hfi] at h2
              simp only [Bool.not_true, Bool.false_or, Bool.and_eq_true] at h2
              exact va_putF (own := am_onm o) (ref := (am_cl c2).1) hx hb hts (am_lays hc) (am_cty c2) (am_ty hc) (am_nm hc) hown hK hP hD hS a (am_ws_at hs) (am_vw hc) f1 hfn (hts _ (am_good_in (am_is_mem hlk) rfl)) hsame hfi (hini h2.1) (by rw [am_decl hc hfn, am_cnm hc, ho]) (am_ty hc f1 hfn) e2 e3 (by rw [am_fl_len]; exact hfn) hd k2
            · have hfi : am_fin c2 f1 = false := by simpa using hfi
              exact va_put (own := am_onm o) (ref := (am_cl c2).1) hx hb hts (am_lays hc) (am_cty c2) (am_ty hc) (am_nm hc) hown hK hP hD hS a (am_ws_at hs) (am_vw hc) f1 hfn (hts _ (am_good_in (am_is_mem hlk) rfl)) hsame hfi (am_ty hc f1 hfn) e2 e3 (by rw [am_fl_len]; exact hfn) hd k2
          · rw [if_neg ho] at hlk
            have hfi : am_fin c2 f1 = false := by
              cases hz : am_fin c2 f1 with
              | false => rfl
              | true =>
                have h2 := h1.2
                rw [hz] at h2
                simp only [Bool.not_true, Bool.false_or, Bool.and_eq_true] at h2
                exact absurd (Nat.eq_of_beq_eq_true h2.2) ho
            exact va_putN (own := am_onm o) (ref := (am_cl c2).1) (host := "PrunedParses") hx hb hts (am_lays hc) (am_cty c2) (am_ty hc) (am_nm hc) hown hK hP hD hS a (am_ws_at hs) (am_vw hc) f1 hfn (va_Nw.use rfl (hnx _ (am_nests_in (am_is_mem hlk) rfl))) hsame hfi (am_ty hc f1 hfn) e2 e3 (by rw [am_fl_len]; exact hfn) hd k2
        · cases h
      · cases h
    · cases h
  · cases h
theorem am_ia_ok (hx : p.tables.exec = Jvm.exec) (hb : c.code = cc) (hK : va_K (dC, dI) vwCl (am_tys cA) s) (hP : va_P (dC, dI) vwCl (am_ws cA ad w) H) (hD : va_D A (am_ws cA ad w)) (hS : va_S A H0 H locs)
    (hd : decode cc pc = .ok (.iaload, 1)) (h : am_ia pc ls st w k n = some q) (hl : am_lr (am_v b ad) ls LS nL) (kk : am_kk p l e R s m args below meth c Q b ad nL dC dI cA A H0 w.1.length q) : W p l e R s m args below meth c H locs k n Q (F0 m pc LS (st.map (am_v b ad))) := by
  unfold am_ia at h
  split at h
  · split at h
    · rename_i i a r _ L hs
      obtain ⟨h1, h⟩ := am_if_some h
      cases h
      exact va_iald (D := (dC, dI)) (f := w.2.1 a) hx hb hK hP a 0 (am_ws_at hs) rfl (am_in_ok h1) hd (kk ad H locs LS am_agr_rf hP hD hS hl)
    · cases h
  · cases h
theorem am_za_ok (hx : p.tables.exec = Jvm.exec) (hb : c.code = cc) (hK : va_K (dC, dI) vwCl (am_tys cA) s) (hP : va_P (dC, dI) vwCl (am_ws cA ad w) H) (hD : va_D A (am_ws cA ad w)) (hS : va_S A H0 H locs)
    (hd : decode cc pc = .ok (.baload, 1)) (h : am_za pc ls st w k n = some q) (hl : am_lr (am_v b ad) ls LS nL) (kk : am_kk p l e R s m args below meth c Q b ad nL dC dI cA A H0 w.1.length q) : W p l e R s m args below meth c H locs k n Q (F0 m pc LS (st.map (am_v b ad))) := by
  unfold am_za at h
  split at h
  · split at h
    · rename_i i a r _ L hs
      obtain ⟨h1, h⟩ := am_if_some h
      cases h
      exact va_zald (D := (dC, dI)) (f := w.2.1 a) hx hb hK hP a 1 (am_ws_at hs) rfl (am_in_ok h1) hd (kk ad H locs LS am_agr_rf hP hD hS hl)
    · cases h
  · cases h
theorem am_la_ok (hx : p.tables.exec = Jvm.exec) (hb : c.code = cc) (hK : va_K (dC, dI) vwCl (am_tys cA) s) (hP : va_P (dC, dI) vwCl (am_ws cA ad w) H) (hD : va_D A (am_ws cA ad w)) (hS : va_S A H0 H locs)
    (hd : decode cc pc = .ok (.laload, 1)) (h : am_la pc ls st w k n = some q) (hl : am_lr (am_v b ad) ls LS nL) (kk : am_kk p l e R s m args below meth c Q b ad nL dC dI cA A H0 w.1.length q) : W p l e R s m args below meth c H locs k n Q (F0 m pc LS (st.map (am_v b ad))) := by
  unfold am_la at h
  split at h
  · split at h
    · rename_i i a r _ L hs
      obtain ⟨h1, h⟩ := am_if_some h
      cases h
      exact va_lald (D := (dC, dI)) (f := w.2.2.1 a) hx hb hK hP a 2 (am_ws_at hs) rfl (am_in_ok h1) hd (kk ad H locs LS am_agr_rf hP hD hS hl)
    · cases h
  · cases h
theorem am_qa_ok (hx : p.tables.exec = Jvm.exec) (hb : c.code = cc) (hK : va_K (dC, dI) vwCl (am_tys cA) s) (hP : va_P (dC, dI) vwCl (am_ws cA ad w) H) (hD : va_D A (am_ws cA ad w)) (hS : va_S A H0 H locs)
    (hd : decode cc pc = .ok (.aaload, 1)) (h : am_qa pc ls st w k n = some q) (hl : am_lr (am_v b ad) ls LS nL) (kk : am_kk p l e R s m args below meth c Q b ad nL dC dI cA A H0 w.1.length q) : W p l e R s m args below meth c H locs k n Q (F0 m pc LS (st.map (am_v b ad))) := by
  unfold am_qa at h
  split at h
  · split at h
    · rename_i i a r _ t L hs
      split at h
      · rename_i z hz
        obtain ⟨p1, c1⟩ := z
        obtain ⟨h1, h⟩ := am_if_some h
        cases h
        have k2 := kk ad H locs LS am_agr_rf hP hD hS hl
        rw [List.map_cons, am_v_rf] at k2
        have hw := am_ws_at (cA := cA) (ad := ad) hs
        unfold am_ek at hw
        dsimp only at hw
        rw [am_tp_row hz] at hw
        exact va_aldq (D := (dC, dI)) (f := fun j => (w.2.2.2 a j).map ad) hx hb hK hP a p1 hw (am_tp_at hz).1 (am_in_ok h1) hd k2
      · cases h
    · cases h
  · cases h

theorem am_is1_ok (hx : p.tables.exec = Jvm.exec) (hb : c.code = cc) (hK : va_K (dC, dI) vwCl (am_tys cA) s) (hP : va_P (dC, dI) vwCl (am_ws cA ad w) H) (hD : va_D A (am_ws cA ad w)) (hS : va_S A H0 H locs)
    (hd : decode cc pc = .ok (.iastore, 1)) (h : am_is1 pc ls st w k n = some q) (hl : am_lr (am_v b ad) ls LS nL) (kk : am_kk p l e R s m args below meth c Q b ad nL dC dI cA A H0 w.1.length q) : W p l e R s m args below meth c H locs k n Q (F0 m pc LS (st.map (am_v b ad))) := by
  unfold am_is1 at h
  split at h
  · split at h
    · rename_i x i a r _ L hs
      obtain ⟨h1, h⟩ := am_if_some h
      cases h
      have hset : (am_ws cA ad w).set a (ad a, .inl (cA 0, L, .inl (upd (w.2.1 a) i.toNatClampNeg x))) = am_ws cA ad (w.1, am_u w.2.1 a i.toNatClampNeg x, w.2.2.1, w.2.2.2) := by
        rw [am_upd]
        exact am_ws_set (w' := (w.1, am_u w.2.1 a i.toNatClampNeg x, w.2.2.1, w.2.2.2)) (s := .inr (0, L)) rfl hs (fun o' s' hne => am_ek_eq (w' := (w.1, am_u w.2.1 a i.toNatClampNeg x, w.2.2.1, w.2.2.2)) (w := w) (am_u_ne hne) rfl rfl s')
      refine va_iast (D := (dC, dI)) (f := w.2.1 a) hx hb hK hP hD hS a 0 (am_ws_at hs) rfl (am_in_ok h1) hd (fun H1 locs1 g1 g2 g3 => ?_)
      rw [hset] at g1 g2
      exact kk ad H1 locs1 LS am_agr_rf g1 g2 g3 hl
    · cases h
  · cases h
theorem am_zs_ok (hx : p.tables.exec = Jvm.exec) (hb : c.code = cc) (hK : va_K (dC, dI) vwCl (am_tys cA) s) (hP : va_P (dC, dI) vwCl (am_ws cA ad w) H) (hD : va_D A (am_ws cA ad w)) (hS : va_S A H0 H locs)
    (hd : decode cc pc = .ok (.bastore, 1)) (h : am_zs pc ls st w k n = some q) (hl : am_lr (am_v b ad) ls LS nL) (kk : am_kk p l e R s m args below meth c Q b ad nL dC dI cA A H0 w.1.length q) : W p l e R s m args below meth c H locs k n Q (F0 m pc LS (st.map (am_v b ad))) := by
  unfold am_zs at h
  split at h
  · split at h
    · rename_i x i a r _ L hs
      obtain ⟨h1, h⟩ := am_if_some h
      cases h
      simp only [Bool.and_eq_true, Bool.or_eq_true, decide_eq_true_eq] at h1
      have hnar : vp_nar .boolean x = x := by rcases h1.2 with rfl | rfl <;> rfl
      have hset : (am_ws cA ad w).set a (ad a, .inl (cA 1, L, .inl (upd (w.2.1 a) i.toNatClampNeg x))) = am_ws cA ad (w.1, am_u w.2.1 a i.toNatClampNeg x, w.2.2.1, w.2.2.2) := by
        rw [am_upd]
        exact am_ws_set (w' := (w.1, am_u w.2.1 a i.toNatClampNeg x, w.2.2.1, w.2.2.2)) (s := .inr (1, L)) rfl hs (fun o' s' hne => am_ek_eq (w' := (w.1, am_u w.2.1 a i.toNatClampNeg x, w.2.2.1, w.2.2.2)) (w := w) (am_u_ne hne) rfl rfl s')
      refine va_zast (D := (dC, dI)) (f := w.2.1 a) hx hb hK hP hD hS a 1 (am_ws_at hs) rfl (am_in_ok h1.1) hd (fun H1 locs1 g1 g2 g3 => ?_)
      rw [hnar, hset] at g1 g2
      exact kk ad H1 locs1 LS am_agr_rf g1 g2 g3 hl
    · cases h
  · cases h
theorem am_ls_ok (hx : p.tables.exec = Jvm.exec) (hb : c.code = cc) (hK : va_K (dC, dI) vwCl (am_tys cA) s) (hP : va_P (dC, dI) vwCl (am_ws cA ad w) H) (hD : va_D A (am_ws cA ad w)) (hS : va_S A H0 H locs)
    (hd : decode cc pc = .ok (.lastore, 1)) (h : am_ls pc ls st w k n = some q) (hl : am_lr (am_v b ad) ls LS nL) (kk : am_kk p l e R s m args below meth c Q b ad nL dC dI cA A H0 w.1.length q) : W p l e R s m args below meth c H locs k n Q (F0 m pc LS (st.map (am_v b ad))) := by
  unfold am_ls at h
  split at h
  · split at h
    · rename_i x i a r _ L hs
      obtain ⟨h1, h⟩ := am_if_some h
      cases h
      have hset : (am_ws cA ad w).set a (ad a, .inl (cA 2, L, .inr (.inl (vp_updL (w.2.2.1 a) i.toNatClampNeg x)))) = am_ws cA ad (w.1, w.2.1, am_u w.2.2.1 a i.toNatClampNeg x, w.2.2.2) := by
        rw [am_updL]
        exact am_ws_set (w' := (w.1, w.2.1, am_u w.2.2.1 a i.toNatClampNeg x, w.2.2.2)) (s := .inr (2, L)) rfl hs (fun o' s' hne => am_ek_eq (w' := (w.1, w.2.1, am_u w.2.2.1 a i.toNatClampNeg x, w.2.2.2)) (w := w) rfl (am_u_ne hne) rfl s')
      refine va_last (D := (dC, dI)) (f := w.2.2.1 a) hx hb hK hP hD hS a 2 (am_ws_at hs) rfl (am_in_ok h1) hd (fun H1 locs1 g1 g2 g3 => ?_)
      rw [hset] at g1 g2
      exact kk ad H1 locs1 LS am_agr_rf g1 g2 g3 hl
    · cases h
  · cases h
theorem am_qs_ok (hx : p.tables.exec = Jvm.exec) (hb : c.code = cc) (hK : va_K (dC, dI) vwCl (am_tys cA) s) (hP : va_P (dC, dI) vwCl (am_ws cA ad w) H) (hD : va_D A (am_ws cA ad w)) (hS : va_S A H0 H locs)
    (hd : decode cc pc = .ok (.aastore, 1)) (h : am_qs pc ls st w k n = some q) (hl : am_lr (am_v b ad) ls LS nL) (kk : am_kk p l e R s m args below meth c Q b ad nL dC dI cA A H0 w.1.length q) : W p l e R s m args below meth c H locs k n Q (F0 m pc LS (st.map (am_v b ad))) := by
  unfold am_qs at h
  split at h
  · split at h
    · rename_i v i a r _ t L hs
      split at h
      · rename_i p1 c1 hz
        split at h
        · rename_i c2 hv
          obtain ⟨h1, h⟩ := am_if_some h
          cases h
          simp only [Bool.and_eq_true] at h1
          have e := Nat.eq_of_beq_eq_true h1.2
          subst e
          obtain ⟨z1, z2, z3⟩ := am_tp_at (cA := cA) hz
          have hw := am_ws_at (cA := cA) (ad := ad) hs
          unfold am_ek at hw
          dsimp only at hw
          rw [am_tp_row hz] at hw
          have hset : (am_ws cA ad w).set a (ad a, .inl (cA t, L, .inr (.inr (.inr (.inr (va_up (fun j => (w.2.2.2 a j).map ad) i.toNatClampNeg (some (ad v)))))))) = am_ws cA ad (w.1, w.2.1, w.2.2.1, am_u w.2.2.2 a i.toNatClampNeg (some v)) := by
            rw [am_updQ]
            have hq := am_ws_set (cA := cA) (ad := ad) (w := w) (w' := (w.1, w.2.1, w.2.2.1, am_u w.2.2.2 a i.toNatClampNeg (some v))) (s := .inr (t, L)) rfl hs (fun o' s' hne => am_ek_eq (w' := (w.1, w.2.1, w.2.2.1, am_u w.2.2.2 a i.toNatClampNeg (some v))) (w := w) rfl rfl (am_u_ne hne) s')
            unfold am_ek at hq
            dsimp only at hq
            rw [am_tp_row hz] at hq
            exact hq
          refine va_astq (D := (dC, dI)) (r := ((am_cl c2).1, (am_cl c2).2.1, am_cn c2)) (f := fun j => (w.2.2.2 a j).map ad) hx hb hK hP hD hS a p1 v c2 hw z1 (am_ws_at hv) (am_vw z2) (am_in_ok h1.1) hd (fun H1 locs1 g1 g2 g3 => ?_)
          rw [hset] at g1 g2
          exact kk ad H1 locs1 LS am_agr_rf g1 g2 g3 hl
        · cases h
      · cases h
    · cases h
  · cases h
theorem am_al1_ok (hx : p.tables.exec = Jvm.exec) (hb : c.code = cc) (hK : va_K (dC, dI) vwCl (am_tys cA) s) (hP : va_P (dC, dI) vwCl (am_ws cA ad w) H) (hD : va_D A (am_ws cA ad w)) (hS : va_S A H0 H locs)
    (hd : decode cc pc = .ok (.arraylength, 1)) (h : am_al1 pc ls st w k n = some q) (hl : am_lr (am_v b ad) ls LS nL) (kk : am_kk p l e R s m args below meth c Q b ad nL dC dI cA A H0 w.1.length q) : W p l e R s m args below meth c H locs k n Q (F0 m pc LS (st.map (am_v b ad))) := by
  unfold am_al1 at h
  split at h
  · split at h
    · rename_i a r _ t L hs
      obtain ⟨h1, h⟩ := am_if_some h
      cases h
      have ht : t < 3 := Nat.blt_eq.mp h1
      have k2 := kk ad H locs LS am_agr_rf hP hD hS hl
      match t, ht, hs with
      | 0, _, hs => exact va_alen (D := (dC, dI)) hx hb hK hP a 0 (am_ws_at hs) (ty := .int) rfl rfl hd k2
      | 1, _, hs => exact va_alen (D := (dC, dI)) hx hb hK hP a 1 (am_ws_at hs) (ty := .boolean) rfl rfl hd k2
      | 2, _, hs => exact va_alen (D := (dC, dI)) hx hb hK hP a 2 (am_ws_at hs) (ty := .long) rfl rfl hd k2
    · cases h
  · cases h
theorem am_al2_ok (hx : p.tables.exec = Jvm.exec) (hb : c.code = cc) (hK : va_K (dC, dI) vwCl (am_tys cA) s) (hP : va_P (dC, dI) vwCl (am_ws cA ad w) H) (hD : va_D A (am_ws cA ad w)) (hS : va_S A H0 H locs)
    (hd : decode cc pc = .ok (.arraylength, 1)) (h : am_al2 pc ls st w k n = some q) (hl : am_lr (am_v b ad) ls LS nL) (kk : am_kk p l e R s m args below meth c Q b ad nL dC dI cA A H0 w.1.length q) : W p l e R s m args below meth c H locs k n Q (F0 m pc LS (st.map (am_v b ad))) := by
  unfold am_al2 at h
  split at h
  · split at h
    · rename_i a r _ t L hs
      split at h
      · rename_i z hz
        obtain ⟨p1, c1⟩ := z
        cases h
        exact va_alen (D := (dC, dI)) hx hb hK hP a p1 (am_ws_at hs) (am_tp_at hz).1 rfl hd (kk ad H locs LS am_agr_rf hP hD hS hl)
      · cases h
    · cases h
  · cases h
end AMH
