/-! A law's text: the class reads it -/
/-- the class's codes of the kinds -/
def cK (k : Nat) : Nat := if k = 2 then 43 else if k = 3 then 45 else if k = 4 then 42 else if k = 5 then 47 else if k = 8 then 37 else if k = 6 then 2 else if k = 7 then 3 else k
def cLw (x : Nat) (I : am_I) (L : LW) : Prop := I x 2 = ni L.1 ∧ ∀ i, i < L.1 → I (x + 1) i = ni (cK (L.2 i).1) ∧ I (x + 2) i = ni (L.2 i).2
def cLs (x : Nat) (I I' : am_I) : Prop := ∀ o k, ¬ (o = 1 ∧ (k = 3 ∨ k = 7 ∨ k = 8 ∨ k = 9)) → ¬ (x ≤ o ∧ o ≤ x + 3) → I' o k = I o k
def cLg (x : Nat) (I I' : am_I) : Prop := ∀ o k, ¬ (o = 1 ∧ 3 ≤ k) → ¬ (5 ≤ o ∧ o ≤ 7) → ¬ (1000 ≤ o ∧ o < 1039) → ¬ (x ≤ o ∧ o ≤ x + 3) → I' o k = I o k
def cLf (x : Nat) (I I' : am_I) (kd pl : Nat) : Prop := I' 1 5 = ni kd ∧ I' 1 6 = ni pl ∧ cLg x I I'
theorem cLs.rfl' {x : Nat} {I : am_I} : cLs x I I := fun _ _ _ _ => rfl
theorem cLs.trans {x : Nat} {I I' I'' : am_I} (h : cLs x I I') (g : cLs x I' I'') : cLs x I I'' := fun o k e1 e2 => (g o k e1 e2).trans (h o k e1 e2)
theorem cLs.rd {x : Nat} {I I' : am_I} (h : cLs x I I') {k : Nat} {v : Int32} (e : k = 3 ∨ k = 7 ∨ k = 8 ∨ k = 9) : cLs x I (am_u I' 1 k v) := fun o j e1 e2 => (am_u_nq (by omega)).trans (h o j e1 e2)
theorem cRd.ls {x : Nat} {I I' : am_I} (h : cRd I I') : cLs x I I' := fun o k e _ => h o k e
theorem cLs.g {x : Nat} {I I' : am_I} (h : cLs x I I') : cLg x I I' := fun o k e1 _ _ e4 => h o k (by omega) e4
theorem cLg.trans {x : Nat} {I I' I'' : am_I} (h : cLg x I I') (g : cLg x I' I'') : cLg x I I'' := fun o k e1 e2 e3 e4 => (g o k e1 e2 e3 e4).trans (h o k e1 e2 e3 e4)
theorem cLf.after {x : Nat} {I I' I'' : am_I} {kd pl : Nat} (h : cLf x I' I'' kd pl) (g : cLs x I I') : cLf x I I'' kd pl := ⟨h.1, h.2.1, g.g.trans h.2.2⟩
theorem cLf.after2 {x : Nat} {I I' I'' : am_I} {kd pl : Nat} (h : cLf x I' I'' kd pl) (g : cLg x I I') : cLf x I I'' kd pl := ⟨h.1, h.2.1, g.trans h.2.2⟩
theorem cFF.lf {x : Nat} {I I' : am_I} {J J' : am_J} {kd pl : Nat} (h : cFF 1000 I I' J J' kd pl) : cLf x I I' kd pl := ⟨h.1, h.2.1, fun o k e1 e2 e3 _ => h.2.2.1 o k e1 (by omega) e2 e3⟩
theorem cLw.s {x : Nat} {I I' : am_I} {L : LW} (h : cLw x I L) (g : cLs x I I') (hx : 7 < x) (e : ∀ o k, x ≤ o → o ≤ x + 3 → I' o k = I o k := by first | (intro o k e1 e2; exact am_u_nq (by omega))) : cLw x I' L := ⟨by rw [e _ _ (by omega) (by omega)]; exact h.1, fun i hi => by rw [e _ _ (by omega) (by omega), e _ _ (by omega) (by omega)]; exact h.2 i hi⟩
theorem RD.of {I I' : am_I} {n a : Nat} (h : RD I n a) (e : ∀ k, I' 1 k = I 1 k) : RD I' n a := ⟨(e _).trans h.1, (e _).trans h.2.1, h.2.2⟩
def lwUp (x : Nat) (I : am_I) (k v : Int32) : am_I := am_u (am_u (am_u I (x + 1) (I x 2).toNatClampNeg k) (x + 2) ((am_u I (x + 1) (I x 2).toNatClampNeg k) x 2).toNatClampNeg v) x 2 (((am_u (am_u I (x + 1) (I x 2).toNatClampNeg k) (x + 2) ((am_u I (x + 1) (I x 2).toNatClampNeg k) x 2).toNatClampNeg v) x 2) + 1)
def opXS (x : Int32) : Nat := opS x
def opXP (x : Int32) : Nat := opP x
theorem opXS_hz {b : Nat → Int32} {n a : Nat} : opXS (hv b n a) = opS (hz b n a) := by
  unfold opXS hv hz
  split
  · rfl
  · decide
theorem opXP_hz {b : Nat → Int32} {n a : Nat} : opXP (hv b n a) = opP (hz b n a) := by
  unfold opXP hv hz
  split
  · rfl
  · decide
theorem lwUp_o {x : Nat} {I : am_I} {k v : Int32} {o j : Nat} (h : ¬ (x ≤ o ∧ o ≤ x + 2)) : lwUp x I k v o j = I o j := by
  unfold lwUp
  rw [am_u_nq (by omega), am_u_nq (by omega), am_u_nq (by omega)]
theorem cLw.add {x : Nat} {I : am_I} {L : LW} (h : cLw x I L) {k v : Nat} (hx : 7 < x) (hc : L.1 < 150) : am_in (I x 2) 150 = true ∧ (∀ w : Int32, am_in ((am_u I (x + 1) (I x 2).toNatClampNeg w) x 2) 150 = true) ∧ cLw x (lwUp x I (ni (cK k)) (ni v)) (lwAdd L k v) ∧ cLs x I (lwUp x I (ni (cK k)) (ni v)) ∧ ∀ j, lwUp x I (ni (cK k)) (ni v) 1 j = I 1 j := by
  have e0 : (I x 2).toNatClampNeg = L.1 := by rw [h.1, ni_nat (by omega)]
  have e1 : ∀ w : Int32, am_u I (x + 1) L.1 w x 2 = ni L.1 := fun w => (am_u_nq (by omega)).trans h.1
  refine ⟨by rw [h.1]; exact ni_in (by omega) hc, fun w => by rw [e0, e1]; exact ni_in (by omega) hc, ⟨?_, fun i hi => ?_⟩, fun o j _ e => lwUp_o (by omega), fun j => lwUp_o (by omega)⟩
  · unfold lwUp
    rw [am_u_same, e0, am_u_nq (by omega), e1, ni_p1]; rfl
  · unfold lwUp lwAdd
    unfold lwAdd at hi
    dsimp only at hi ⊢
    rw [e0, e1, ni_nat (by omega)]
    by_cases c : i = L.1
    · subst c
      rw [if_pos rfl, am_u_nq (by omega), am_u_nq (by omega), am_u_same, am_u_nq (by omega), am_u_same]
      exact ⟨rfl, rfl⟩
    · rw [if_neg c, am_u_nq (by omega), am_u_nq (by omega), am_u_nq (by omega), am_u_nq (by omega), am_u_nq (by omega), am_u_nq (by omega)]
      exact h.2 i (by omega)
section LWC
variable {b : Nat → Int32} {n x : Nat} {J : am_J} {Pf : am_R}

theorem cr_S (hp : am_PF Pf) (hx : am_SH[x]? = some (.inl 2)) (h4 : Pf x 4 = some 1) (hx7 : 7 < x) {u : LW → Nat → (Nat × Nat) ⊕ (LW × Nat)} {d o a0 : Nat} (hn : n ≤ 150) {P : am_O → Prop}
    (hok : ∀ L a z, a ≤ n → u L a = .inr z → lwOk n L a z)
    (hu : ∀ (I : am_I) (L : LW) (a : Nat) (Q : am_O → Prop), a0 ≤ a → I 2 = b → RD I n a → I 1 5 = 0 → I 1 4 = ni o → cLw x I L → L.1 ≤ a → rm2 (u L a) (fun z => ∀ I', RD I' n z.2 → cLs x I I' → cLw x I' z.1 → Q (.inl (some (.int 1)), (am_SH, I', J, Pf), 0, 0)) (fun kd pl => ∀ I', cLf x I I' kd pl → pl ≤ 600 → Q (.inl (some (.int 0)), (am_SH, I', J, Pf), 0, 0)) → am_mth (d + 2) 44 [.ref x, .int (ni o)] (am_SH, I, J, Pf) Q) :
    ∀ (G : Nat) (I : am_I) (L : LW) (a cnt : Nat) (l3 : Option Value), n - a < G → a0 ≤ a + 1 → I 2 = b → RD I n a → I 1 5 = 0 → I 1 4 = ni o → cLw x I L → L.1 ≤ a → cnt < a →
    rm2 (lwLoop b n u opS G L a) (fun z => ∀ I', RD I' n z.2 → cLs x I I' → cLw x I' z.1 → P (.inl (some (.int 1)), (am_SH, I', J, Pf), 0, 0)) (fun kd pl => ∀ I', cLf x I I' kd pl → pl ≤ 600 → P (.inl (some (.int 0)), (am_SH, I', J, Pf), 0, 0)) →
    am_go none (d + 2) 43 (18, [some (.ref x), some (.int (ni o)), some (.int (ni cnt)), l3], [], (am_SH, I, J, Pf), 0, 0) P := by
  intro G
  induction G with
  | zero => intro I L a cnt l3 hG; omega
  | succ G ih =>
    intro I L a cnt l3 hG ha0 hb h h5 ho hL hLa hc kk
    have hq := rsk_le (b := b) h.2.2.1
    have han := h.2.2.1
    unfold lwLoop at kk
    refine v43_18 hp hx ?_
    rw [if_neg (fun z => absurd ((gle 150 (by omega) (by omega)).mp z) (by omega))]
    refine ⟨h4, sp_rd_hbb (d := d + 1) hp h (am_back (v43_32 hp hx ?_))⟩
    rw [hb]
    have hR := h.at hq.2
    have s3 : cLs x I (am_u I 1 3 (ni (rsk b n a))) := cLs.rfl'.rd (by omega)
    have stop : opXS (hv b n (rsk b n a)) = 0 → P (.inl (some (.int 1)), (am_SH, am_u I 1 3 (ni (rsk b n a)), J, Pf), 0, 0) := by
      intro c
      rw [opXS_hz] at c
      rw [if_pos c] at kk
      exact kk _ hR s3 (hL.s s3 hx7)
    have go : ∀ (v : Int32), hv b n (rsk b n a) = v → opXS v ≠ 0 → v ≠ 0 → v ≠ -1 → v = ni (cK (opXS v)) → am_go none (d + 2) 43 (47, [some (.ref x), some (.int (ni o)), some (.int (ni cnt)), some (.int v)], [], (am_SH, am_u I 1 3 (ni (rsk b n a)), J, Pf), 0, 0) P := by
      intro v e c v0 v1 vc
      have ez := (hv_hz v0 v1).mp e
      have hlt := hz_0 ez v0
      have cz : opS (hz b n (rsk b n a)) = opXS v := by rw [ez]; rfl
      rw [if_neg (by rw [cz]; exact c), cz] at kk
      refine v43_47 hp hx ⟨h4, ?_⟩
      rw [am_u_same, am_u_u, ni_p1]
      have hR2 := h.at (a' := rsk b n a + 1) (by omega)
      have s4 : cLs x I (am_u I 1 3 (ni (rsk b n a + 1))) := cLs.rfl'.rd (by omega)
      refine hu _ L (rsk b n a + 1) _ (by omega) ((am_u_o (by omega)).trans hb) hR2 (by rw [am_u_nq (by omega)]; exact h5) (by rw [am_u_nq (by omega)]; exact ho) (hL.s s4 hx7) (by omega) ?_
      cases hm : u L (rsk b n a + 1) with
      | inl e =>
        rw [hm] at kk
        intro I' hF hpl
        refine am_back (v43_65 hp hx ?_)
        rw [if_pos rfl]
        exact kk I' (hF.after s4) hpl
      | inr z =>
        rw [hm] at kk
        dsimp only [rb] at kk
        intro I' hR' hs hL'
        obtain ⟨k1, k2, k3⟩ := hok _ _ _ (by omega) hm
        refine am_back (v43_65 hp hx ?_)
        rw [if_neg (by decide), if_pos (show I' x 2 < 150 by rw [hL'.1]; exact (llt 150 (by omega) (by omega)).mpr (by omega)), ni_p1 cnt, vc]
        have sI : cLs x I I' := s4.trans hs
        obtain ⟨q1, q2, q3, q4, q5⟩ := hL'.add (k := opXS v) (v := 0) hx7 (by omega)
        refine ⟨q1, q2 _, ?_⟩
        have sI2 := sI.trans q4
        refine ih (lwUp x I' (ni (cK (opXS v))) (ni 0)) (lwAdd z.1 (opXS v) 0) z.2 (cnt + 1) _ (by omega) (by omega) ?_ (hR'.of q5) ?_ ?_ q3 (by show z.1.1 + 1 ≤ z.2; omega) (by omega) ?_
        · rw [← hb]; funext k; exact sI2 _ _ (by omega) (by omega)
        · rw [sI2 _ _ (by omega) (by omega)]; exact h5
        · rw [sI2 _ _ (by omega) (by omega)]; exact ho
        · revert kk
          cases lwLoop b n u opS G (lwAdd z.1 (opXS v) 0) z.2 with
          | inl e => exact fun kk I'' hF hpl => kk I'' (hF.after sI2) hpl
          | inr y => exact fun kk I'' g1 g2 g3 => kk I'' g1 (sI2.trans g2) g3
    generalize hv b n (rsk b n a) = hh at *
    by_cases c0 : hh = 43
    · rw [if_pos c0]; exact go hh rfl (by rw [c0]; decide) (by rw [c0]; decide) (by rw [c0]; decide) (by rw [c0]; decide)
    rw [if_neg c0]
    by_cases c1 : hh = 45
    · rw [if_pos c1]; exact go hh rfl (by rw [c1]; decide) (by rw [c1]; decide) (by rw [c1]; decide) (by rw [c1]; decide)
    rw [if_neg c1]
    exact stop (by unfold opXS opS; rw [if_neg c0, if_neg c1])


theorem cr_P (hp : am_PF Pf) (hx : am_SH[x]? = some (.inl 2)) (h4 : Pf x 4 = some 1) (hx7 : 7 < x) {u : LW → Nat → (Nat × Nat) ⊕ (LW × Nat)} {d o a0 : Nat} (hn : n ≤ 150) {P : am_O → Prop}
    (hok : ∀ L a z, a ≤ n → u L a = .inr z → lwOk n L a z)
    (hu : ∀ (I : am_I) (L : LW) (a : Nat) (Q : am_O → Prop), a0 ≤ a → I 2 = b → RD I n a → I 1 5 = 0 → I 1 4 = ni o → cLw x I L → L.1 ≤ a → rm2 (u L a) (fun z => ∀ I', RD I' n z.2 → cLs x I I' → cLw x I' z.1 → Q (.inl (some (.int 1)), (am_SH, I', J, Pf), 0, 0)) (fun kd pl => ∀ I', cLf x I I' kd pl → pl ≤ 600 → Q (.inl (some (.int 0)), (am_SH, I', J, Pf), 0, 0)) → am_mth (d + 2) 45 [.ref x, .int (ni o)] (am_SH, I, J, Pf) Q) :
    ∀ (G : Nat) (I : am_I) (L : LW) (a cnt : Nat) (l3 : Option Value), n - a < G → a0 ≤ a + 1 → I 2 = b → RD I n a → I 1 5 = 0 → I 1 4 = ni o → cLw x I L → L.1 ≤ a → cnt < a →
    rm2 (lwLoop b n u opP G L a) (fun z => ∀ I', RD I' n z.2 → cLs x I I' → cLw x I' z.1 → P (.inl (some (.int 1)), (am_SH, I', J, Pf), 0, 0)) (fun kd pl => ∀ I', cLf x I I' kd pl → pl ≤ 600 → P (.inl (some (.int 0)), (am_SH, I', J, Pf), 0, 0)) →
    am_go none (d + 2) 44 (12, [some (.ref x), some (.int (ni o)), some (.int (ni cnt)), l3], [], (am_SH, I, J, Pf), 0, 0) P := by
  intro G
  induction G with
  | zero => intro I L a cnt l3 hG; omega
  | succ G ih =>
    intro I L a cnt l3 hG ha0 hb h h5 ho hL hLa hc kk
    have hq := rsk_le (b := b) h.2.2.1
    have han := h.2.2.1
    unfold lwLoop at kk
    refine v44_12 hp hx ?_
    rw [if_neg (fun z => absurd ((gle 150 (by omega) (by omega)).mp z) (by omega))]
    refine ⟨h4, sp_rd_hbb (d := d + 1) hp h (am_back (v44_26 hp hx ?_))⟩
    rw [hb]
    have hR := h.at hq.2
    have s3 : cLs x I (am_u I 1 3 (ni (rsk b n a))) := cLs.rfl'.rd (by omega)
    have stop : opXP (hv b n (rsk b n a)) = 0 → P (.inl (some (.int 1)), (am_SH, am_u I 1 3 (ni (rsk b n a)), J, Pf), 0, 0) := by
      intro c
      rw [opXP_hz] at c
      rw [if_pos c] at kk
      exact kk _ hR s3 (hL.s s3 hx7)
    have go : ∀ (v : Int32), hv b n (rsk b n a) = v → opXP v ≠ 0 → v ≠ 0 → v ≠ -1 → v = ni (cK (opXP v)) → am_go none (d + 2) 44 (47, [some (.ref x), some (.int (ni o)), some (.int (ni cnt)), some (.int v)], [], (am_SH, am_u I 1 3 (ni (rsk b n a)), J, Pf), 0, 0) P := by
      intro v e c v0 v1 vc
      have ez := (hv_hz v0 v1).mp e
      have hlt := hz_0 ez v0
      have cz : opP (hz b n (rsk b n a)) = opXP v := by rw [ez]; rfl
      rw [if_neg (by rw [cz]; exact c), cz] at kk
      refine v44_47 hp hx ⟨h4, ?_⟩
      rw [am_u_same, am_u_u, ni_p1]
      have hR2 := h.at (a' := rsk b n a + 1) (by omega)
      have s4 : cLs x I (am_u I 1 3 (ni (rsk b n a + 1))) := cLs.rfl'.rd (by omega)
      refine hu _ L (rsk b n a + 1) _ (by omega) ((am_u_o (by omega)).trans hb) hR2 (by rw [am_u_nq (by omega)]; exact h5) (by rw [am_u_nq (by omega)]; exact ho) (hL.s s4 hx7) (by omega) ?_
      cases hm : u L (rsk b n a + 1) with
      | inl e =>
        rw [hm] at kk
        intro I' hF hpl
        refine am_back (v44_65 hp hx ?_)
        rw [if_pos rfl]
        exact kk I' (hF.after s4) hpl
      | inr z =>
        rw [hm] at kk
        dsimp only [rb] at kk
        intro I' hR' hs hL'
        obtain ⟨k1, k2, k3⟩ := hok _ _ _ (by omega) hm
        refine am_back (v44_65 hp hx ?_)
        rw [if_neg (by decide), if_pos (show I' x 2 < 150 by rw [hL'.1]; exact (llt 150 (by omega) (by omega)).mpr (by omega)), ni_p1 cnt, vc]
        have sI : cLs x I I' := s4.trans hs
        obtain ⟨q1, q2, q3, q4, q5⟩ := hL'.add (k := opXP v) (v := 0) hx7 (by omega)
        refine ⟨q1, q2 _, ?_⟩
        have sI2 := sI.trans q4
        refine ih (lwUp x I' (ni (cK (opXP v))) (ni 0)) (lwAdd z.1 (opXP v) 0) z.2 (cnt + 1) _ (by omega) (by omega) ?_ (hR'.of q5) ?_ ?_ q3 (by show z.1.1 + 1 ≤ z.2; omega) (by omega) ?_
        · rw [← hb]; funext k; exact sI2 _ _ (by omega) (by omega)
        · rw [sI2 _ _ (by omega) (by omega)]; exact h5
        · rw [sI2 _ _ (by omega) (by omega)]; exact ho
        · revert kk
          cases lwLoop b n u opP G (lwAdd z.1 (opXP v) 0) z.2 with
          | inl e => exact fun kk I'' hF hpl => kk I'' (hF.after sI2) hpl
          | inr y => exact fun kk I'' g1 g2 g3 => kk I'' g1 (sI2.trans g2) g3
    generalize hv b n (rsk b n a) = hh at *
    by_cases c0 : hh = 42
    · rw [if_pos c0]; exact go hh rfl (by rw [c0]; decide) (by rw [c0]; decide) (by rw [c0]; decide) (by rw [c0]; decide)
    rw [if_neg c0]
    by_cases c1 : hh = 47
    · rw [if_pos c1]; exact go hh rfl (by rw [c1]; decide) (by rw [c1]; decide) (by rw [c1]; decide) (by rw [c1]; decide)
    rw [if_neg c1]
    by_cases c2 : hh = 37
    · rw [if_pos c2]; exact go hh rfl (by rw [c2]; decide) (by rw [c2]; decide) (by rw [c2]; decide) (by rw [c2]; decide)
    rw [if_neg c2]
    exact stop (by unfold opXP opP; rw [if_neg c0, if_neg c1, if_neg c2])

end LWC
