/-! Calls: the machine does what the abstract one does -/
section AMR
variable {p : Program} {l : Launch} {e : Env} {R : Room} {s : State} {m : MethodId} {args : Array Value} {below : List Frame} {meth : Method} {c : Code} {H : Heap} {locs : List Loc} {cells slots mc ms : Nat} {Q : State → Prop}
variable {pc : Nat} {LS : Array Slot} {st0 rest : List Value} {A0 A1 : Nat → Prop} {H0 : Heap} {free : Addr → Prop} {dC : Nat → ClassId} {dI : Nat → Nat → Nat} {cA : Nat → ClassId} {b : Nat → Option Nat} {ad : Nat → Nat} {w w' : am_W}
theorem am_rrow {v : Option Value} (hr : va_Run p l e R s m args below meth c H locs cells slots mc ms (F0 m pc LS st0) rest (fun st oc t => ∃ ad', oc = .returned (v.map (am_v b ad')) ∧ am_aft dC dI cA ad w A1 w' ad' st t) free) (hS : va_S A0 H0 H locs) (hA : ∀ q, A1 q → A0 q) (hf : ∀ q, free q → A0 q)
    (kk : ∀ (ad' : Nat → Nat) (H1 : Heap) (locs1 : List Loc), am_agr w.1.length w'.1.length ad ad' → va_P (dC, dI) vwCl (am_ws cA ad' w') H1 → va_D A0 (am_ws cA ad' w') → va_S A0 H0 H1 locs1 → W p l e R s m args below meth c H1 locs1 (cells + mc) (slots + ms) Q (F0 m (pc + 3) LS ((v.map (am_v b ad')).toList ++ rest))) : W p l e R s m args below meth c H locs cells slots Q (F0 m pc LS st0) := by
  intro T hT X
  obtain ⟨v', st₀, t, T', L, h0, X', hL, e1, e2, ⟨ad', hv, ⟨g1, g2, g3⟩, hz, hk⟩, st⟩ := hr T hT X
  cases hv
  rw [h0] at hz hk
  obtain ⟨t2, a1, b1⟩ := kk ad' T'.heap (locs ++ L) g1 (by rw [e1]; exact g2) (g3.weaken (fun _ q _ h => hA q.1 h))
    ⟨Nat.le_trans hS.1 (by rw [e1]; exact hz), fun q h1 h2 => by rw [e1, hk q (Nat.lt_of_lt_of_le h1 hS.1) (fun z => h2 (hA q z))]; exact hS.2.1 q h1 h2, fun q hq => by
      rcases List.mem_append.mp hq with h | h
      · exact hS.2.2 q h
      · exact hf _ (hL q h)⟩ T' rfl X'
  exact ⟨t2, st t2 a1, b1⟩
theorem am_trow {E : Nat} (hr : vx_Run p l e R s m args below meth c H locs cells slots mc ms (F0 m pc LS st0) rest (fun _ _ _ => False) (fun E' st t => E' = am_xn E ∧ ∃ ad', am_aft dC dI cA ad w A1 w' ad' st t) free) (hS : va_S A0 H0 H locs) (hA : ∀ q, A1 q → A0 q) (hf : ∀ q, free q → A0 q)
    (kx : ∀ (ad' : Nat → Nat) (H1 : Heap) (locs1 : List Loc) (ce : Cell) (q9 : Addr), am_agr w.1.length w'.1.length ad ad' → va_P (dC, dI) vwCl (am_ws cA ad' w') H1 → va_D A0 (am_ws cA ad' w') → va_S A0 H0 H1 locs1 → H1[q9]? = some ce → ce.vm = .none → s.vm.findClass (am_xn E) = some ce.cls → vx_W p l e R s m args below meth c H1 locs1 (cells + mc) (slots + ms) Q (F0 m pc LS rest) q9) : W p l e R s m args below meth c H locs cells slots Q (F0 m pc LS st0) := by
  intro T hT X
  rcases hr T hT X with ⟨v', st₀, t, T', L, h0, X', hL, e1, e2, hx, st⟩ | ⟨q9, st₀, t, T', L, E', ce, h0, X', hL, e1, e2, ⟨hE, ad', ⟨g1, g2, g3⟩, hz, hk⟩, hce, hcv, hcl, st⟩
  · cases hx
  · rw [h0] at hz hk
    subst hE
    obtain ⟨t2, a1, b1⟩ := kx ad' T'.heap (locs ++ L) ce q9 g1 (by rw [e1]; exact g2) (g3.weaken (fun _ q _ h => hA q.1 h))
      ⟨Nat.le_trans hS.1 (by rw [e1]; exact hz), fun q h1 h2 => by rw [e1, hk q (Nat.lt_of_lt_of_le h1 hS.1) (fun z => h2 (hA q z))]; exact hS.2.1 q h1 h2, fun q hq => by
        rcases List.mem_append.mp hq with h | h
        · exact hS.2.2 q h
        · exact hf _ (hL q h)⟩ (by rw [e1]; exact hce) hcv hcl T' rfl X'
    exact ⟨t2, st.trans a1, b1⟩
end AMR
section AMC
variable {p : Program} {l : Launch} {e : Env} {R : Room} {s : State} {m : MethodId} {args : Array Value} {below : List Frame} {meth : Method} {c : Code} {H : Heap} {locs : List Loc} {Q : State → Prop}
variable {cc : ByteArray} {pc : Nat} {b : Nat → Option Nat} {ad : Nat → Nat} {nL : Nat} {dC : Nat → ClassId} {dI : Nat → Nat → Nat} {cA : Nat → ClassId} {A : Nat → Prop} {ls : am_L} {st : List Value} {w : am_W} {k n d : Nat} {LS : Array Slot} {o : Nat}
variable {j y' na kd p1 p2 p3 k' n' : Nat}
theorem am_lnk (hq : (j, y', na, kd, p1, p2, p3) ∈ am_mds o) (h6 : kd < 6 ∨ kd = 8) : (am_hd y' = [] ↔ kd ≠ 8) ∧
    (∀ sig, parseMethodDescriptor (am_mn y').desc = some sig → na = sig.parameters.length) ∧ ((kd = 1 ∨ kd = 3 ∨ kd = 5) → Cond.methodLinkNest (am_onm o) j (am_mn y') "PrunedParses" ∈ am_nests) ∧ (¬ (kd = 1 ∨ kd = 3 ∨ kd = 5) → Cond.methodLink (am_onm o) j (am_mn y') ∈ am_good) ∧
    ((kd = 2 ∨ kd = 3 ∨ kd = 8) → Cond.static (am_mn y') ∈ am_good) ∧ (¬ (kd = 2 ∨ kd = 3 ∨ kd = 8) → Cond.instanceMethod (am_mn y') ∈ am_good) ∧ ((kd = 0 ∨ kd = 1) → Cond.selects (am_mn y').cls (am_mn y') (am_mn y') ∈ am_good) ∧ ((kd = 4 ∨ kd = 5) → (am_mn y').name = "<init>") := by
  have h := am_md_ok hq
  unfold am_cok at h
  dsimp only at h
  have h66 : (kd == 6) = false := by simp only [beq_eq_false_iff_ne]; omega
  have h67 : (kd == 7) = false := by simp only [beq_eq_false_iff_ne]; omega
  rw [h66, h67] at h
  simp only [Bool.false_and, Bool.false_or, Bool.and_eq_true, decide_eq_true_eq] at h
  obtain ⟨⟨⟨⟨⟨⟨⟨g0, g1⟩, g2⟩, g3⟩, g4⟩, g5⟩, g6⟩, g7⟩ := h
  refine ⟨g7, fun sig hs => ?_, fun z => ?_, fun z => ?_, fun z => ?_, fun z => ?_, fun z => ?_, fun z => ?_⟩
  · rw [hs] at g1
    exact (Option.some.inj g1).symm
  · rw [if_pos z] at g2
    exact am_nests_in (am_is_mem g2) rfl
  · rw [if_neg z] at g2
    exact am_good_in (am_is_mem g2) rfl
  · rw [if_pos z] at g3
    exact am_good_in (am_is_mem g3) rfl
  · rw [if_neg z] at g3
    exact am_good_in (am_is_mem g3) rfl
  · rw [if_pos z] at g4
    exact am_good_in (am_sel_mem g4) rfl
  · rw [if_pos z] at g5
    exact of_decide_eq_true g5
theorem am_cB (hq : (j, y', na, kd, p1, p2, p3) ∈ am_mds o) (h6 : kd < 6) (hkd : ¬ (kd = 1 ∨ kd = 3 ∨ kd = 5)) (how : am_pc y' ≠ 9999) (hts : ∀ w ∈ am_good, w.before args s = true) (hRf : d + 1 ≤ R.frames) (hRl : 41 * (d + 1) ≤ R.locals) :
    CallB R s args (am_onm o) j (am_mn y') (am_by y') (am_ml y') (am_rt y') (am_wd y') (am_room d k' n') k' n' na := by
  obtain ⟨f1, f2, f3, f4, f5, -, -⟩ := am_fact how
  obtain ⟨g0, g1, -, g2, -⟩ := am_lnk hq (Or.inl h6)
  have e0 := am_cw_0 (g0.mpr (by omega))
  exact ⟨rfl, rfl, hRf, by show 8 + (am_ml y' + 11) + 41 * d ≤ _; omega, pay_in hts (am_goodIn how), by rw [← e0]; exact List.mem_cons_self, by rw [← e0]; exact hts _ f1, hts _ f2, ⟨f3, f4⟩, g1, hts _ (g2 hkd)⟩
theorem am_cN (hq : (j, y', na, kd, p1, p2, p3) ∈ am_mds o) (h6 : kd < 6) (hkd : kd = 1 ∨ kd = 3 ∨ kd = 5) (how : am_pc y' ≠ 9999) (hts : ∀ w ∈ am_good, w.before args s = true) (hnx : ∀ w ∈ am_nests, va_Nw w s) (hRf : d + 1 ≤ R.frames) (hRl : 41 * (d + 1) ≤ R.locals) :
    va_CN R s args (am_onm o) j (am_mn y') "PrunedParses" (am_by y') (am_ml y') (am_rt y') (am_wd y') (am_room d k' n') k' n' na := by
  obtain ⟨f1, f2, f3, f4, f5, -, -⟩ := am_fact how
  obtain ⟨g0, g1, g2, -⟩ := am_lnk hq (Or.inl h6)
  have e0 := am_cw_0 (g0.mpr (by omega))
  exact ⟨⟨rfl, rfl, hRf, by show 8 + (am_ml y' + 11) + 41 * d ≤ _; omega, pay_in hts (am_goodIn how), by rw [← e0]; exact List.mem_cons_self⟩, by rw [← e0]; exact hts _ f1, hts _ f2, ⟨f3, f4⟩, g1, va_Nw.use rfl (hnx _ (g2 hkd))⟩
/-- a static call of a method with handlers -/
theorem am_cH (hq : (j, y', na, 8, p1, p2, p3) ∈ am_mds o) (how : am_pc y' ≠ 9999) (hts : ∀ w ∈ am_good, w.before args s = true) (hRf : d + 1 ≤ R.frames) (hRl : 41 * (d + 1) ≤ R.locals) :
    vx_CSW R s args (am_onm o) j (am_mn y') (am_by y') (am_ml y') (am_rt y') (am_hd y') (am_wd y') (am_room d k' n') k' n' na := by
  obtain ⟨f1, f2, f3, f4, f5, -, -⟩ := am_fact how
  obtain ⟨g0, g1, -, g2, g3, -⟩ := am_lnk hq (Or.inr rfl)
  have e0 : am_cw (am_mt y') = Cond.codeWith (am_mn y') (am_by y') (am_ml y') (am_rt y') (am_hd y') := by
    cases hh : am_hd y' with
    | nil => exact absurd rfl (g0.mp hh)
    | cons h1 t1 =>
      rw [← hh]
      exact am_cw_1 hh
  exact ⟨⟨rfl, rfl, hRf, by show 8 + (am_ml y' + 11) + 41 * d ≤ _; omega, pay_in hts (am_goodIn how), by rw [← e0]; exact List.mem_cons_self⟩, by rw [← e0]; exact hts _ f1, hts _ f2, ⟨f3, f4⟩, g1, hts _ (g2 (by decide)), hts _ (g3 (by decide))⟩
/-- the callee's start holds at a call -/
theorem am_pre (hI : am_Inv dC dI cA s) (hXt : am_Xt b A s) (hP : va_P (dC, dI) vwCl (am_ws cA ad w) H) (hD : va_D A (am_ws cA ad w)) (hS : va_S A s.heap H locs) (hA : ∀ q, s.heap.size ≤ q → A q) (as : List Value) : PreS s H (am_Pre dC dI cA b ad w H.size as) (as.map (am_v b ad)) := by
  refine ⟨am_blind, fun U hU hW => ⟨rfl, by rw [hU], by rw [hU]; exact hP, hD.weaken (fun _ _ _ _ => trivial), hI.warm hW, ?_⟩⟩
  refine am_Xt.to hW.alike (fun _ _ _ _ h => vk_R.warm hW h) (fun a h1 h2 => by rw [hU]; exact hS.2.1 a h1 h2) (fun q h => ?_) hXt
  rcases h with ⟨k, e, h⟩ | h
  · exact hD.2 k (q, e) h
  · exact hA q (Nat.le_trans hS.1 h)
theorem am_Asub (hD : va_D A (am_ws cA ad w)) (hS : va_S A s.heap H locs) (hA : ∀ q, s.heap.size ≤ q → A q) : ∀ q, va_A (am_ws cA ad w) H.size q → A q := by
  intro q h
  rcases h with ⟨k, e, h⟩ | h
  · exact hD.2 k (q, e) h
  · exact hA q (Nat.le_trans hS.1 h)
/-- behind a throw that goes through -/
abbrev am_kt (p : Program) (l : Launch) (e : Env) (R : Room) (s : State) (m : MethodId) (args : Array Value) (below : List Frame) (meth : Method) (c : Code) (Q : State → Prop) (ad : Nat → Nat) (dC : Nat → ClassId) (dI : Nat → Nat → Nat) (cA : Nat → ClassId) (A : Nat → Prop) (pc : Nat) (LS : Array Slot) (N : Nat) (q : am_O) : Prop :=
  ∀ (E : Nat) (ad' : Nat → Nat) (H1 : Heap) (locs1 : List Loc) (ce : Cell) (q9 : Addr) (rest : List Value), q.1 = .inr E → am_agr N q.2.1.1.length ad ad' → va_P (dC, dI) vwCl (am_ws cA ad' q.2.1) H1 → va_D A (am_ws cA ad' q.2.1) → va_S A s.heap H1 locs1 → H1[q9]? = some ce → ce.vm = .none → s.vm.findClass (am_xn E) = some ce.cls → vx_W p l e R s m args below meth c H1 locs1 q.2.2.1 q.2.2.2 Q (F0 m pc LS rest) q9
abbrev am_kb (p : Program) (l : Launch) (e : Env) (R : Room) (s : State) (m : MethodId) (args : Array Value) (below : List Frame) (meth : Method) (c : Code) (Q : State → Prop) (b : Nat → Option Nat) (ad : Nat → Nat) (nL : Nat) (dC : Nat → ClassId) (dI : Nat → Nat → Nat) (cA : Nat → ClassId) (A : Nat → Prop) (pc : Nat) (LS : Array Slot) (N : Nat) (t : am_S ⊕ am_O) : Prop := match t with
  | .inl q => q.2.2.2.2.1 ≤ R.cells ∧ q.2.2.2.2.2 ≤ R.slots ∧ am_kk p l e R s m args below meth c Q b ad nL dC dI cA A s.heap N q
  | .inr q => q.2.2.1 ≤ R.cells ∧ q.2.2.2 ≤ R.slots ∧ am_kt p l e R s m args below meth c Q ad dC dI cA A pc LS N q
/-- a call's two ends, out of the callee's contract by its outcome -/
theorem am_rs_ok {r : List Value} {thr : Bool} {res : Option am_O} {t : am_S ⊕ am_O} {st0 : List Value} (hl : am_lr (am_v b ad) ls LS nL) (hD : va_D A (am_ws cA ad w)) (hS : va_S A s.heap H locs) (hA : ∀ q, s.heap.size ≤ q → A q)
    (h : am_rs pc ls r w k n thr res = some t) (kb : am_kb p l e R s m args below meth c Q b ad nL dC dI cA A pc LS w.1.length t)
    (run : ∀ (v : Option Value) (w' : am_W) (k' n' : Nat), res = some (.inl v, w', k', n') → k + k' ≤ R.cells → n + n' ≤ R.slots → va_Run p l e R s m args below meth c H locs k n k' n' (F0 m pc LS st0) (r.map (am_v b ad)) (fun st oc t => ∃ ad', oc = .returned (v.map (am_v b ad')) ∧ am_aft dC dI cA ad w (va_A (am_ws cA ad w) H.size) w' ad' st t) (va_A (am_ws cA ad w) H.size))
    (thx : ∀ (E : Nat) (w' : am_W) (k' n' : Nat), thr = true → res = some (.inr E, w', k', n') → k + k' ≤ R.cells → n + n' ≤ R.slots → vx_Run p l e R s m args below meth c H locs k n k' n' (F0 m pc LS st0) (r.map (am_v b ad)) (fun _ _ _ => False) (fun E' st t => E' = am_xn E ∧ ∃ ad', am_aft dC dI cA ad w (va_A (am_ws cA ad w) H.size) w' ad' st t) (va_A (am_ws cA ad w) H.size)) :
    W p l e R s m args below meth c H locs k n Q (F0 m pc LS st0) := by
  have hsub := am_Asub hD hS hA
  unfold am_rs at h
  split at h
  · rename_i v w' k' n'
    obtain ⟨h1, h⟩ := am_if_some h
    cases h
    obtain ⟨kc, ks, kk⟩ := kb
    refine am_rrow (run v w' k' n' rfl kc ks) hS hsub hsub (fun ad' H1 locs1 g1 g2 g3 g4 => ?_)
    have fin : am_lr (am_v b ad') ls LS nL → r.map (am_v b ad') = r.map (am_v b ad) → W p l e R s m args below meth c H1 locs1 (k + k') (n + n') Q (F0 m (pc + 3) LS ((v.map (am_v b ad')).toList ++ r.map (am_v b ad))) := by
      intro f1 f2
      have k2 := kk ad' H1 locs1 LS g1 g2 g3 g4 f1
      rw [List.map_append, f2] at k2
      cases v with
      | none => exact k2
      | some v => exact k2
    by_cases hv : am_vld w.1.length ls r = true
    · exact fin (am_vld_lr g1.lo hv hl) (am_vld_st g1.lo hv)
    · rw [Bool.not_eq_true] at hv
      rw [hv, Bool.or_false] at h1
      have e1 := Nat.eq_of_beq_eq_true h1
      rw [e1] at g1
      have e2 := g1.eq
      exact fin (by rw [e2]; exact hl) (by rw [e2])
  · rename_i E w' k' n'
    obtain ⟨h1, h⟩ := am_if_some h
    cases h
    obtain ⟨kc, ks, kt⟩ := kb
    exact am_trow (thx E w' k' n' h1 rfl kc ks) hS hsub hsub (fun ad' H1 locs1 ce q9 g1 g2 g3 g4 g5 g6 g7 => kt E ad' H1 locs1 ce q9 _ rfl g1 g2 g3 g4 g5 g6 g7)
  · cases h
end AMC
