/-! A law's text: the class reads it -/
/-- the class's codes of the kinds -/
def cK (k : Nat) : Nat := if k = 2 then 43 else if k = 3 then 45 else if k = 4 then 42 else if k = 5 then 47 else if k = 8 then 37 else if k = 6 then 2 else if k = 7 then 3 else k
def cLw (x : Nat) (I : am_I) (L : LW) : Prop := I x 2 = ni L.1 ∧ ∀ i, i < L.1 → I (x + 1) i = ni (cK (L.2 i).1) ∧ I (x + 2) i = ni (L.2 i).2
def cLs (x : Nat) (I I' : am_I) : Prop := ∀ o k, ¬ (o = 1 ∧ (k = 3 ∨ k = 7 ∨ k = 8 ∨ k = 9)) → ¬ (x ≤ o ∧ o ≤ x + 3) → I' o k = I o k
def cLg (x : Nat) (I I' : am_I) : Prop := ∀ o k, ¬ (o = 1 ∧ 3 ≤ k) → ¬ (5 ≤ o ∧ o ≤ 7) → ¬ (1000 ≤ o ∧ o < 1039) → ¬ (x ≤ o ∧ o ≤ x + 3) → I' o k = I o k
def cLf (x : Nat) (I I' : am_I) (kd pl : Nat) : Prop := I' 1 5 = ni kd ∧ I' 1 6 = ni pl ∧ cLg x I I'
theorem cLs.rfl' {x : Nat} {I : am_I} : cLs x I I := fun _ _ _ _ => rfl
theorem cLs.trans {x : Nat} {I I' I'' : am_I} (h : cLs x I I') (g : cLs x I' I'') : cLs x I I'' := fun o k e1 e2 => (g o k e1 e2).trans (h o k e1 e2)
theorem cLs.rd {x : Nat} {I I' : am_I} (h : cLs x I I') {k : Nat} {v : Int32} (e : k = 3 ∨ k = 7 ∨ k = 8 ∨ k = 9) : cLs x I (am_u I' 1 k v) := fun o j e1 e2 => (am_u_nq (by omega)).trans (h o j e1 e2)
theorem cRd.ls {x : Nat} {I I' : am_I} (h : cRd I I') : cLs x I I' := fun o k e _ => h o k e
theorem cLs.g {x : Nat} {I I' : am_I} (h : cLs x I I') : cLg x I I' := fun o k e1 _ _ e4 => h o k (by omega) e4
theorem cLg.trans {x : Nat} {I I' I'' : am_I} (h : cLg x I I') (g : cLg x I' I'') : cLg x I I'' := fun o k e1 e2 e3 e4 => (g o k e1 e2 e3 e4).trans (h o k e1 e2 e3 e4)
theorem cLf.after {x : Nat} {I I' I'' : am_I} {kd pl : Nat} (h : cLf x I' I'' kd pl) (g : cLs x I I') : cLf x I I'' kd pl := ⟨h.1, h.2.1, g.g.trans h.2.2⟩
theorem cLf.after2 {x : Nat} {I I' I'' : am_I} {kd pl : Nat} (h : cLf x I' I'' kd pl) (g : cLg x I I') : cLf x I I'' kd pl := ⟨h.1, h.2.1, g.trans h.2.2⟩
theorem cFF.lf {x : Nat} {I I' : am_I} {J J' : am_J} {kd pl : Nat} (h : cFF 1000 I I' J J' kd pl) : cLf x I I' kd pl := ⟨h.1, h.2.1, fun o k e1 e2 e3 _ => h.2.2.1 o k e1 (by omega) e2 e3⟩
theorem cLw.s {x : Nat} {I I' : am_I} {L : LW} (h : cLw x I L) (g : cLs x I I') (hx : 7 < x) (e : ∀ o k, x ≤ o → o ≤ x + 3 → I' o k = I o k := by first | (intro o k e1 e2; exact am_u_nq (by omega))) : cLw x I' L := ⟨by rw [e _ _ (by omega) (by omega)]; exact h.1, fun i hi => by rw [e _ _ (by omega) (by omega), e _ _ (by omega) (by omega)]; exact h.2 i hi⟩
theorem RD.of {I I' : am_I} {n a : Nat} (h : RD I n a) (e : ∀ k, I' 1 k = I 1 k) : RD I' n a := ⟨(e _).trans h.1, (e _).trans h.2.1, h.2.2⟩
def lwUp (x : Nat) (I : am_I) (k v : Int32) : am_I := am_u (am_u (am_u I (x + 1) (I x 2).toNatClampNeg k) (x + 2) ((am_u I (x + 1) (I x 2).toNatClampNeg k) x 2).toNatClampNeg v) x 2 (((am_u (am_u I (x + 1) (I x 2).toNatClampNeg k) (x + 2) ((am_u I (x + 1) (I x 2).toNatClampNeg k) x 2).toNatClampNeg v) x 2) + 1)
def opXS (x : Int32) : Nat := opS x
def opXP (x : Int32) : Nat := opP x
theorem opXS_hz {b : Nat → Int32} {n a : Nat} : opXS (hv b n a) = opS (hz b n a) := by
  unfold opXS hv hz
  split
  · rfl
  · decide
theorem opXP_hz {b : Nat → Int32} {n a : Nat} : opXP (hv b n a) = opP (hz b n a) := by
  unfold opXP hv hz
  split
  · rfl
  · decide
theorem lwUp_o {x : Nat} {I : am_I} {k v : Int32} {o j : Nat} (h : ¬ (x ≤ o ∧ o ≤ x + 2)) : lwUp x I k v o j = I o j := by
  unfold lwUp
  rw [am_u_nq (by omega), am_u_nq (by omega), am_u_nq (by omega)]
theorem cLw.add {x : Nat} {I : am_I} {L : LW} (h : cLw x I L) {k v : Nat} (hx : 7 < x) (hc : L.1 < 150) : am_in (I x 2) 150 = true ∧ (∀ w : Int32, am_in ((am_u I (x + 1) (I x 2).toNatClampNeg w) x 2) 150 = true) ∧ cLw x (lwUp x I (ni (cK k)) (ni v)) (lwAdd L k v) ∧ cLs x I (lwUp x I (ni (cK k)) (ni v)) ∧ ∀ j, lwUp x I (ni (cK k)) (ni v) 1 j = I 1 j := by
  have e0 : (I x 2).toNatClampNeg = L.1 := by rw [h.1, ni_nat (by omega)]
  have e1 : ∀ w : Int32, am_u I (x + 1) L.1 w x 2 = ni L.1 := fun w => (am_u_nq (by omega)).trans h.1
  refine ⟨by rw [h.1]; exact ni_in (by omega) hc, fun w => by rw [e0, e1]; exact ni_in (by omega) hc, ⟨?_, fun i hi => ?_⟩, fun o j _ e => lwUp_o (by omega), fun j => lwUp_o (by omega)⟩
  · unfold lwUp
    rw [am_u_same, e0, am_u_nq (by omega), e1, ni_p1]; rfl
  · unfold lwUp lwAdd
    unfold lwAdd at hi
    dsimp only at hi ⊢
    rw [e0, e1, ni_nat (by omega)]
    by_cases c : i = L.1
    · subst c
      rw [if_pos rfl, am_u_nq (by omega), am_u_nq (by omega), am_u_same, am_u_nq (by omega), am_u_same]
      exact ⟨rfl, rfl⟩
    · rw [if_neg c, am_u_nq (by omega), am_u_nq (by omega), am_u_nq (by omega), am_u_nq (by omega), am_u_nq (by omega), am_u_nq (by omega)]
      exact h.2 i (by omega)
section LWC
variable {b : Nat → Int32} {n x : Nat} {J : am_J} {Pf : am_R}

theorem cr_S (hp : am_PF Pf) (hx : am_SH[x]? = some (.inl 2)) (h4 : Pf x 4 = some 1) (hx7 : 7 < x) {u : LW → Nat → (Nat × Nat) ⊕ (LW × Nat)} {d o a0 : Nat} (hn : n ≤ 150) {P : am_O → Prop}
    (hok : ∀ L a z, a ≤ n → u L a = .inr z → lwOk n L a z)
    (hu : ∀ (I : am_I) (L : LW) (a : Nat) (Q : am_O → Prop), a0 ≤ a → I 2 = b → RD I n a → I 1 5 = 0 → I 1 4 = ni o → cLw x I L → L.1 ≤ a → rm2 (u L a) (fun z => ∀ I', RD I' n z.2 → cLs x I I' → cLw x I' z.1 → Q (.inl (some (.int 1)), (am_SH, I', J, Pf), 0, 0)) (fun kd pl => ∀ I', cLf x I I' kd pl → pl ≤ 600 → Q (.inl (some (.int 0)), (am_SH, I', J, Pf), 0, 0)) → am_mth (d + 2) 44 [.ref x, .int (ni o)] (am_SH, I, J, Pf) Q) :
    ∀ (G : Nat) (I : am_I) (L : LW) (a cnt : Nat) (l3 : Option Value), n - a < G → a0 ≤ a + 1 → I 2 = b → RD I n a → I 1 5 = 0 → I 1 4 = ni o → cLw x I L → L.1 ≤ a → cnt < a →
    rm2 (lwLoop b n u opS G L a) (fun z => ∀ I', RD I' n z.2 → cLs x I I' → cLw x I' z.1 → P (.inl (some (.int 1)), (am_SH, I', J, Pf), 0, 0)) (fun kd pl => ∀ I', cLf x I I' kd pl → pl ≤ 600 → P (.inl (some (.int 0)), (am_SH, I', J, Pf), 0, 0)) →
    am_go none (d + 2) 43 (18, [some (.ref x), some (.int (ni o)), some (.int (ni cnt)), l3], [], (am_SH, I, J, Pf), 0, 0) P := by
  intro G
  induction G with
  | zero => intro I L a cnt l3 hG; omega
  | succ G ih =>
    intro I L a cnt l3 hG ha0 hb h h5 ho hL hLa hc kk
    have hq := rsk_le (b := b) h.2.2.1
    have han := h.2.2.1
    unfold lwLoop at kk
    refine v43_18 hp hx ?_
    rw [if_neg (fun z => absurd ((gle 150 (by omega) (by omega)).mp z) (by omega))]
    refine ⟨h4, sp_rd_hbb (d := d + 1) hp h (am_back (v43_32 hp hx ?_))⟩
    rw [hb]
    have hR := h.at hq.2
    have s3 : cLs x I (am_u I 1 3 (ni (rsk b n a))) := cLs.rfl'.rd (by omega)
    have stop : opXS (hv b n (rsk b n a)) = 0 → P (.inl (some (.int 1)), (am_SH, am_u I 1 3 (ni (rsk b n a)), J, Pf), 0, 0) := by
      intro c
      rw [opXS_hz] at c
      rw [if_pos c] at kk
      exact kk _ hR s3 (hL.s s3 hx7)
    have go : ∀ (v : Int32), hv b n (rsk b n a) = v → opXS v ≠ 0 → v ≠ 0 → v ≠ -1 → v = ni (cK (opXS v)) → am_go none (d + 2) 43 (47, [some (.ref x), some (.int (ni o)), some (.int (ni cnt)), some (.int v)], [], (am_SH, am_u I 1 3 (ni (rsk b n a)), J, Pf), 0, 0) P := by
      intro v e c v0 v1 vc
      have ez := (hv_hz v0 v1).mp e
      have hlt := hz_0 ez v0
      have cz : opS (hz b n (rsk b n a)) = opXS v := by rw [ez]; rfl
      rw [if_neg (by rw [cz]; exact c), cz] at kk
      refine v43_47 hp hx ⟨h4, ?_⟩
      rw [am_u_same, am_u_u, ni_p1]
      have hR2 := h.at (a' := rsk b n a + 1) (by omega)
      have s4 : cLs x I (am_u I 1 3 (ni (rsk b n a + 1))) := cLs.rfl'.rd (by omega)
      refine hu _ L (rsk b n a + 1) _ (by omega) ((am_u_o (by omega)).trans hb) hR2 (by rw [am_u_nq (by omega)]; exact h5) (by rw [am_u_nq (by omega)]; exact ho) (hL.s s4 hx7) (by omega) ?_
      cases hm : u L (rsk b n a + 1) with
      | inl e =>
        rw [hm] at kk
        intro I' hF hpl
        refine am_back (v43_65 hp hx ?_)
        rw [if_pos rfl]
        exact kk I' (hF.after s4) hpl
      | inr z =>
        rw [hm] at kk
        dsimp only [rb] at kk
        intro I' hR' hs hL'
        obtain ⟨k1, k2, k3⟩ := hok _ _ _ (by omega) hm
        refine am_back (v43_65 hp hx ?_)
        rw [if_neg (by decide), if_pos (show I' x 2 < 150 by rw [hL'.1]; exact (llt 150 (by omega) (by omega)).mpr (by omega)), ni_p1 cnt, vc]
        have sI : cLs x I I' := s4.trans hs
        obtain ⟨q1, q2, q3, q4, q5⟩ := hL'.add (k := opXS v) (v := 0) hx7 (by omega)
        refine ⟨q1, q2 _, ?_⟩
        have sI2 := sI.trans q4
        refine ih (lwUp x I' (ni (cK (opXS v))) (ni 0)) (lwAdd z.1 (opXS v) 0) z.2 (cnt + 1) _ (by omega) (by omega) ?_ (hR'.of q5) ?_ ?_ q3 (by show z.1.1 + 1 ≤ z.2; omega) (by omega) ?_
        · rw [← hb]; funext k; exact sI2 _ _ (by omega) (by omega)
        · rw [sI2 _ _ (by omega) (by omega)]; exact h5
        · rw [sI2 _ _ (by omega) (by omega)]; exact ho
        · revert kk
          cases lwLoop b n u opS G (lwAdd z.1 (opXS v) 0) z.2 with
          | inl e => exact fun kk I'' hF hpl => kk I'' (hF.after sI2) hpl
          | inr y => exact fun kk I'' g1 g2 g3 => kk I'' g1 (sI2.trans g2) g3
    generalize hv b n (rsk b n a) = hh at *
    by_cases c0 : hh = 43
    · rw [if_pos c0]; exact go hh rfl (by rw [c0]; decide) (by rw [c0]; decide) (by rw [c0]; decide) (by rw [c0]; decide)
    rw [if_neg c0]
    by_cases c1 : hh = 45
    · rw [if_pos c1]; exact go hh rfl (by rw [c1]; decide) (by rw [c1]; decide) (by rw [c1]; decide) (by rw [c1]; decide)
    rw [if_neg c1]
    exact stop (by unfold opXS opS; rw [if_neg c0, if_neg c1])


theorem cr_P (hp : am_PF Pf) (hx : am_SH[x]? = some (.inl 2)) (h4 : Pf x 4 = some 1) (hx7 : 7 < x) {u : LW → Nat → (Nat × Nat) ⊕ (LW × Nat)} {d o a0 : Nat} (hn : n ≤ 150) {P : am_O → Prop}
    (hok : ∀ L a z, a ≤ n → u L a = .inr z → lwOk n L a z)
    (hu : ∀ (I : am_I) (L : LW) (a : Nat) (Q : am_O → Prop), a0 ≤ a → I 2 = b → RD I n a → I 1 5 = 0 → I 1 4 = ni o → cLw x I L → L.1 ≤ a → rm2 (u L a) (fun z => ∀ I', RD I' n z.2 → cLs x I I' → cLw x I' z.1 → Q (.inl (some (.int 1)), (am_SH, I', J, Pf), 0, 0)) (fun kd pl => ∀ I', cLf x I I' kd pl → pl ≤ 600 → Q (.inl (some (.int 0)), (am_SH, I', J, Pf), 0, 0)) → am_mth (d + 2) 45 [.ref x, .int (ni o)] (am_SH, I, J, Pf) Q) :
    ∀ (G : Nat) (I : am_I) (L : LW) (a cnt : Nat) (l3 : Option Value), n - a < G → a0 ≤ a + 1 → I 2 = b → RD I n a → I 1 5 = 0 → I 1 4 = ni o → cLw x I L → L.1 ≤ a → cnt < a →
    rm2 (lwLoop b n u opP G L a) (fun z => ∀ I', RD I' n z.2 → cLs x I I' → cLw x I' z.1 → P (.inl (some (.int 1)), (am_SH, I', J, Pf), 0, 0)) (fun kd pl => ∀ I', cLf x I I' kd pl → pl ≤ 600 → P (.inl (some (.int 0)), (am_SH, I', J, Pf), 0, 0)) →
    am_go none (d + 2) 44 (12, [some (.ref x), some (.int (ni o)), some (.int (ni cnt)), l3], [], (am_SH, I, J, Pf), 0, 0) P := by
  intro G
  induction G with
  | zero => intro I L a cnt l3 hG; omega
  | succ G ih =>
    intro I L a cnt l3 hG ha0 hb h h5 ho hL hLa hc kk
    have hq := rsk_le (b := b) h.2.2.1
    have han := h.2.2.1
    unfold lwLoop at kk
    refine v44_12 hp hx ?_
    rw [if_neg (fun z => absurd ((gle 150 (by omega) (by omega)).mp z) (by omega))]
    refine ⟨h4, sp_rd_hbb (d := d + 1) hp h (am_back (v44_26 hp hx ?_))⟩
    rw [hb]
    have hR := h.at hq.2
    have s3 : cLs x I (am_u I 1 3 (ni (rsk b n a))) := cLs.rfl'.rd (by omega)
    have stop : opXP (hv b n (rsk b n a)) = 0 → P (.inl (some (.int 1)), (am_SH, am_u I 1 3 (ni (rsk b n a)), J, Pf), 0, 0) := by
      intro c
      rw [opXP_hz] at c
      rw [if_pos c] at kk
      exact kk _ hR s3 (hL.s s3 hx7)
    have go : ∀ (v : Int32), hv b n (rsk b n a) = v → opXP v ≠ 0 → v ≠ 0 → v ≠ -1 → v = ni (cK (opXP v)) → am_go none (d + 2) 44 (47, [some (.ref x), some (.int (ni o)), some (.int (ni cnt)), some (.int v)], [], (am_SH, am_u I 1 3 (ni (rsk b n a)), J, Pf), 0, 0) P := by
      intro v e c v0 v1 vc
      have ez := (hv_hz v0 v1).mp e
      have hlt := hz_0 ez v0
      have cz : opP (hz b n (rsk b n a)) = opXP v := by rw [ez]; rfl
      rw [if_neg (by rw [cz]; exact c), cz] at kk
      refine v44_47 hp hx ⟨h4, ?_⟩
      rw [am_u_same, am_u_u, ni_p1]
      have hR2 := h.at (a' := rsk b n a + 1) (by omega)
      have s4 : cLs x I (am_u I 1 3 (ni (rsk b n a + 1))) := cLs.rfl'.rd (by omega)
      refine hu _ L (rsk b n a + 1) _ (by omega) ((am_u_o (by omega)).trans hb) hR2 (by rw [am_u_nq (by omega)]; exact h5) (by rw [am_u_nq (by omega)]; exact ho) (hL.s s4 hx7) (by omega) ?_
      cases hm : u L (rsk b n a + 1) with
      | inl e =>
        rw [hm] at kk
        intro I' hF hpl
        refine am_back (v44_65 hp hx ?_)
        rw [if_pos rfl]
        exact kk I' (hF.after s4) hpl
      | inr z =>
        rw [hm] at kk
        dsimp only [rb] at kk
        intro I' hR' hs hL'
        obtain ⟨k1, k2, k3⟩ := hok _ _ _ (by omega) hm
        refine am_back (v44_65 hp hx ?_)
        rw [if_neg (by decide), if_pos (show I' x 2 < 150 by rw [hL'.1]; exact (llt 150 (by omega) (by omega)).mpr (by omega)), ni_p1 cnt, vc]
        have sI : cLs x I I' := s4.trans hs
        obtain ⟨q1, q2, q3, q4, q5⟩ := hL'.add (k := opXP v) (v := 0) hx7 (by omega)
        refine ⟨q1, q2 _, ?_⟩
        have sI2 := sI.trans q4
        refine ih (lwUp x I' (ni (cK (opXP v))) (ni 0)) (lwAdd z.1 (opXP v) 0) z.2 (cnt + 1) _ (by omega) (by omega) ?_ (hR'.of q5) ?_ ?_ q3 (by show z.1.1 + 1 ≤ z.2; omega) (by omega) ?_
        · rw [← hb]; funext k; exact sI2 _ _ (by omega) (by omega)
        · rw [sI2 _ _ (by omega) (by omega)]; exact h5
        · rw [sI2 _ _ (by omega) (by omega)]; exact ho
        · revert kk
          cases lwLoop b n u opP G (lwAdd z.1 (opXP v) 0) z.2 with
          | inl e => exact fun kk I'' hF hpl => kk I'' (hF.after sI2) hpl
          | inr y => exact fun kk I'' g1 g2 g3 => kk I'' g1 (sI2.trans g2) g3
    generalize hv b n (rsk b n a) = hh at *
    by_cases c0 : hh = 42
    · rw [if_pos c0]; exact go hh rfl (by rw [c0]; decide) (by rw [c0]; decide) (by rw [c0]; decide) (by rw [c0]; decide)
    rw [if_neg c0]
    by_cases c1 : hh = 47
    · rw [if_pos c1]; exact go hh rfl (by rw [c1]; decide) (by rw [c1]; decide) (by rw [c1]; decide) (by rw [c1]; decide)
    rw [if_neg c1]
    by_cases c2 : hh = 37
    · rw [if_pos c2]; exact go hh rfl (by rw [c2]; decide) (by rw [c2]; decide) (by rw [c2]; decide) (by rw [c2]; decide)
    rw [if_neg c2]
    exact stop (by unfold opXP opP; rw [if_neg c0, if_neg c1, if_neg c2])

def fcV (k : Nat) : Int32 := if k = 0 then -1 else ni (k - 1)
theorem sc_fact (hp : am_PF Pf) (hx : am_SH[x]? = some (.inl 2)) (h4 : Pf x 4 = some 1) {I : am_I} {q e d : Nat} {P : am_O → Prop} (h : RD I n e) (h7 : I 1 7 = ni q) (hq : q ≤ e) (kk : P (.inl (some (.int (fcV (fcN (I 2) q e)))), (am_SH, I, J, Pf), 0, 0)) : am_mth (d + 6) 47 [.ref x] (am_SH, I, J, Pf) P := by
  unfold fcN at kk
  refine am_mth_of rfl rfl (v47_0 hp hx ⟨h4, sp_rd_isNamed (d := d) hp h h7 hq rfl (am_back (v47_9 hp hx ?_))⟩)
  by_cases c : nmB (I 2) q e (am_sb 9) = true
  · rw [if_pos c] at kk; rw [show nmB (I 2) q e (am_sb (11 - 2)) = true from c, if_neg (by decide)]; exact kk
  rw [if_neg c] at kk; rw [show nmB (I 2) q e (am_sb (11 - 2)) = false from (Bool.not_eq_true _).mp c, if_pos (show b2 false = 0 from rfl)]
  refine ⟨h4, sp_rd_isNamed (d := d) hp h h7 hq rfl (am_back (v47_23 hp hx ?_))⟩
  by_cases c : nmB (I 2) q e (am_sb 10) = true
  · rw [if_pos c] at kk; rw [show nmB (I 2) q e (am_sb (12 - 2)) = true from c, if_neg (by decide)]; exact kk
  rw [if_neg c] at kk; rw [show nmB (I 2) q e (am_sb (12 - 2)) = false from (Bool.not_eq_true _).mp c, if_pos (show b2 false = 0 from rfl)]
  refine ⟨h4, sp_rd_isNamed (d := d) hp h h7 hq rfl (am_back (v47_37 hp hx ?_))⟩
  by_cases c : nmB (I 2) q e (am_sb 11) = true
  · rw [if_pos c] at kk; rw [show nmB (I 2) q e (am_sb (13 - 2)) = true from c, if_neg (by decide)]; exact kk
  rw [if_neg c] at kk; rw [show nmB (I 2) q e (am_sb (13 - 2)) = false from (Bool.not_eq_true _).mp c, if_pos (show b2 false = 0 from rfl)]
  refine ⟨h4, sp_rd_isNamed (d := d) hp h h7 hq rfl (am_back (v47_51 hp hx ?_))⟩
  by_cases c : nmB (I 2) q e (am_sb 12) = true
  · rw [if_pos c] at kk; rw [show nmB (I 2) q e (am_sb (14 - 2)) = true from c, if_neg (by decide)]; exact kk
  rw [if_neg c] at kk; rw [show nmB (I 2) q e (am_sb (14 - 2)) = false from (Bool.not_eq_true _).mp c, if_pos (show b2 false = 0 from rfl)]
  refine ⟨h4, sp_rd_isNamed (d := d) hp h h7 hq rfl (am_back (v47_65 hp hx ?_))⟩
  by_cases c : nmB (I 2) q e (am_sb 13) = true
  · rw [if_pos c] at kk; rw [show nmB (I 2) q e (am_sb (15 - 2)) = true from c, if_neg (by decide)]; exact kk
  rw [if_neg c] at kk; rw [show nmB (I 2) q e (am_sb (15 - 2)) = false from (Bool.not_eq_true _).mp c, if_pos (show b2 false = 0 from rfl)]
  refine ⟨h4, sp_rd_isNamed (d := d) hp h h7 hq rfl (am_back (v47_79 hp ?_))⟩
  by_cases c : nmB (I 2) q e (am_sb 14) = true
  · rw [if_pos c] at kk; rw [show nmB (I 2) q e (am_sb (16 - 2)) = true from c, if_neg (by decide)]; exact kk
  rw [if_neg c] at kk; rw [show nmB (I 2) q e (am_sb (16 - 2)) = false from (Bool.not_eq_true _).mp c, if_pos (show b2 false = 0 from rfl)]
  exact kk
theorem cLs.opn {I I' : am_I} {v : Int32} (h : cLs x (am_u I 1 4 v) I') : cLs x I (am_u I' 1 4 (I 1 4)) := by
  intro o k e1 e2
  by_cases c : o = 1 ∧ k = 4
  · obtain ⟨rfl, rfl⟩ := c; exact am_u_same
  · rw [am_u_nq (by omega), h o k e1 e2, am_u_nq (by omega)]
theorem cLg.opn {I : am_I} {v : Int32} : cLg x I (am_u I 1 4 v) := fun o k e1 _ _ _ => am_u_nq (by omega)
theorem cLw.s4 {I : am_I} {L : LW} {v : Int32} {k : Nat} (h : cLw x I L) (hx : 7 < x) : cLw x (am_u I 1 k v) L := ⟨by rw [am_u_nq (by omega)]; exact h.1, fun i hi => by rw [am_u_nq (by omega), am_u_nq (by omega)]; exact h.2 i hi⟩
theorem sc_pair (hp : am_PF Pf) (hx : am_SH[x]? = some (.inl 2)) (h4 : Pf x 4 = some 1) (hx7 : 7 < x) {s : LW → Nat → (Nat × Nat) ⊕ (LW × Nat)} {d o a0 kI kd0 : Nat} (hn : n ≤ 150) {P : am_O → Prop} (hkI : cK kd0 = kI) (ho : o ≤ 6)
    (hok : ∀ L a z, a ≤ n → s L a = .inr z → lwOk n L a z)
    (hu : o < 6 → ∀ (D : Nat) (I : am_I) (L : LW) (a : Nat) (Q : am_O → Prop), d + 8 ≤ D → a0 < a → I 2 = b → RD I n a → I 1 5 = 0 → I 1 4 = ni (o + 1) → cLw x I L → L.1 ≤ a → rm2 (s L a) (fun z => ∀ I', RD I' n z.2 → cLs x I I' → cLw x I' z.1 → Q (.inl (some (.int 1)), (am_SH, I', J, Pf), 0, 0)) (fun kd pl => ∀ I', cLf x I I' kd pl → pl ≤ 600 → Q (.inl (some (.int 0)), (am_SH, I', J, Pf), 0, 0)) → am_mth D 43 [.ref x, .int (ni (o + 1))] (am_SH, I, J, Pf) Q)
    {I : am_I} {L : LW} {a q : Nat} (ha : a0 < a) (hb : I 2 = b) (h : RD I n a) (h5 : I 1 5 = 0) (h14 : I 1 4 = ni o) (hL : cLw x I L) (hLa : L.1 ≤ a) (h17 : I 1 7 = ni q) (hq : q ≤ 600)
    (kk : rm2 (if o = 6 then .inl (3, q) else lwPair b n s kd0 L a) (fun z => ∀ I', RD I' n z.2 → cLs x I I' → cLw x I' z.1 → P (.inl (some (.int 1)), (am_SH, I', J, Pf), 0, 0)) (fun kd pl => ∀ I', cLf x I I' kd pl → pl ≤ 600 → P (.inl (some (.int 0)), (am_SH, I', J, Pf), 0, 0))) :
    am_mth (d + 9) 46 [.ref x, .int (ni kI), .int (ni o)] (am_SH, I, J, Pf) P := by
  have n14 : I 1 4 + 1 = ni (o + 1) := by rw [h14, ni_p1]
  have han := h.2.2.1
  refine am_mth_of rfl rfl (v46_0 hp hx ⟨h4, ?_⟩)
  rw [n14]
  by_cases c6 : o = 6
  · rw [if_pos c6] at kk
    rw [if_neg (fun z => absurd ((lle 6 (by omega) (by omega)).mp z) (by omega)), if_pos h5]
    refine kk _ ⟨?_, ?_, fun o k e1 _ _ _ => ?_⟩ hq
    · rw [am_u_nq (by omega), am_u_same]; rfl
    · rw [am_u_same]; exact h17
    · rw [am_u_nq (by omega), am_u_nq (by omega), am_u_nq (by omega)]
  rw [if_neg c6] at kk
  rw [if_pos ((lle 6 (by omega) (by omega)).mpr (by omega))]
  have hu := hu (by omega)
  obtain ⟨I0, eI0⟩ : ∃ I0, I0 = am_u I 1 4 (ni (o + 1)) := ⟨_, rfl⟩
  rw [← eI0]
  have z2 : I0 2 = b := by rw [eI0, am_u_o (by omega)]; exact hb
  have zR : RD I0 n a := by rw [eI0]; exact ⟨(am_u_nq (by omega)).trans h.1, (am_u_nq (by omega)).trans h.2.1, h.2.2⟩
  have z5 : I0 1 5 = 0 := by rw [eI0, am_u_nq (by omega)]; exact h5
  have z4 : I0 1 4 = ni (o + 1) := by rw [eI0, am_u_same]
  have zL : cLw x I0 L := by rw [eI0]; exact hL.s4 hx7
  have zg : cLg x I I0 := by rw [eI0]; exact cLg.opn
  have zs : ∀ I', cLs x I0 I' → cLs x I (am_u I' 1 4 (I 1 4)) := fun I' hs => by rw [eI0] at hs; exact hs.opn
  have pass : ∀ {I' : am_I}, cLs x I0 I' → I' 2 = b ∧ I' 1 5 = 0 ∧ I' 1 4 = ni (o + 1) := fun {I'} hs => ⟨by rw [← z2]; funext k; exact hs _ _ (by omega) (by omega), by rw [hs _ _ (by omega) (by omega)]; exact z5, by rw [hs _ _ (by omega) (by omega)]; exact z4⟩
  unfold lwPair at kk
  refine sc_take (r := 1000) (d := d + 6) hp (by decide) (by decide) zR z5 ?_
  rw [z2]
  cases h1 : mTake b n 91 a with
  | inl e =>
    rw [h1] at kk
    intro I' hF hpl
    refine am_back (v46_26 hp hx ?_)
    rw [if_pos rfl]
    exact kk I' (hF.lf.after2 zg) hpl
  | inr e1 =>
    rw [h1] at kk
    dsimp only [rb] at kk
    have a1 := mTake_lt h1
    have a2 := mTake_le (by decide) h1
    intro I1 hR1 hf1 _ _
    refine am_back (v46_26 hp hx ?_)
    rw [if_neg (by decide), ni_p1]
    have s1 : cLs x I0 I1 := hf1.ls
    obtain ⟨p2, p5, p4⟩ := pass s1
    refine hu (d + 8) I1 L e1 _ (by omega) (by omega) p2 hR1 p5 p4 (zL.s s1 hx7 (fun o k e1 e2 => hf1 _ _ (by omega))) (by omega) ?_
    cases h2 : s L e1 with
    | inl e =>
      rw [h2] at kk
      intro I' hF hpl
      refine am_back (v46_38 hp hx ?_)
      rw [if_pos rfl]
      exact kk I' (hF.after2 (zg.trans s1.g)) hpl
    | inr z1 =>
      rw [h2] at kk
      dsimp only at kk
      obtain ⟨b1, b2, b3⟩ := hok _ _ _ a2 h2
      intro I2 hR2 hs2 hL2
      refine am_back (v46_38 hp hx ?_)
      rw [if_neg (by decide)]
      have s2 : cLs x I0 I2 := s1.trans hs2
      obtain ⟨p2, p5, p4⟩ := pass s2
      refine ⟨h4, sc_take (r := 1000) (d := d + 6) hp (by decide) (by decide) hR2 p5 ?_⟩
      rw [p2]
      cases h3 : mTake b n 44 z1.2 with
      | inl e =>
        rw [h3] at kk
        intro I' hF hpl
        refine am_back (v46_50 hp hx ?_)
        rw [if_pos rfl]
        exact kk I' (hF.lf.after2 (zg.trans s2.g)) hpl
      | inr e2 =>
        rw [h3] at kk
        dsimp only at kk
        have c1 := mTake_lt h3
        have c2 := mTake_le (by decide) h3
        intro I3 hR3 hf3 _ _
        refine am_back (v46_50 hp hx ?_)
        rw [if_neg (by decide), ni_p1]
        have s3 : cLs x I0 I3 := s2.trans hf3.ls
        obtain ⟨p2, p5, p4⟩ := pass s3
        refine hu (d + 8) I3 z1.1 e2 _ (by omega) (by omega) p2 hR3 p5 p4 (hL2.s hf3.ls hx7 (fun o k e1 e2 => hf3 _ _ (by omega))) (by omega) ?_
        cases h6 : s z1.1 e2 with
        | inl e =>
          rw [h6] at kk
          intro I' hF hpl
          refine am_back (v46_62 hp hx ?_)
          rw [if_pos rfl]
          exact kk I' (hF.after2 (zg.trans s3.g)) hpl
        | inr z2' =>
          rw [h6] at kk
          dsimp only at kk
          obtain ⟨d1, d2, d3⟩ := hok _ _ _ c2 h6
          intro I4 hR4 hs4 hL4
          refine am_back (v46_62 hp hx ?_)
          rw [if_neg (by decide)]
          have s4 : cLs x I0 I4 := s3.trans hs4
          obtain ⟨p2, p5, p4⟩ := pass s4
          refine ⟨h4, sc_take (r := 1000) (d := d + 6) hp (by decide) (by decide) hR4 p5 ?_⟩
          rw [p2]
          cases h7 : mTake b n 93 z2'.2 with
          | inl e =>
            rw [h7] at kk
            intro I' hF hpl
            refine am_back (v46_74 hp hx ?_)
            rw [if_pos rfl]
            exact kk I' (hF.lf.after2 (zg.trans s4.g)) hpl
          | inr e3 =>
            rw [h7] at kk
            have f1 := mTake_lt h7
            have f2 := mTake_le (by decide) h7
            intro I5 hR5 hf5 _ _
            refine am_back (v46_74 hp hx ?_)
            rw [if_neg (by decide)]
            have s5 : cLs x I0 I5 := s4.trans hf5.ls
            obtain ⟨p2, p5, p4⟩ := pass s5
            have hL5 : cLw x I5 z2'.1 := hL4.s hf5.ls hx7 (fun o k e1 e2 => hf5 _ _ (by omega))
            have e14 : I5 1 4 - 1 = I 1 4 := by rw [p4, h14]; exact ni_sub (a := o + 1) (b := 1) (by omega)
            rw [e14]
            have hL6 : cLw x (am_u I5 1 4 (I 1 4)) z2'.1 := hL5.s4 hx7
            obtain ⟨q1, q2, q3, q4, q5⟩ := hL6.add (k := kd0) (v := 0) hx7 (by omega)
            rw [if_pos (show am_u I5 1 4 (I 1 4) x 2 < 150 by rw [hL6.1]; exact (llt 150 (by omega) (by omega)).mpr (by omega))]
            refine ⟨h4, q1, q2 _, ?_⟩
            rw [hkI] at q3 q4 q5
            exact kk (lwUp x (am_u I5 1 4 (I 1 4)) (ni kI) (ni 0)) (RD.of ⟨(am_u_nq (by omega)).trans hR5.1, (am_u_nq (by omega)).trans hR5.2.1, hR5.2.2⟩ q5) ((zs _ s5).trans q4) q3
end LWC
