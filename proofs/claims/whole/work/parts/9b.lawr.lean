/-! A law's text: the reference reads it -/
def rLw (I : am_I) (L : LW) : Prop := I 163 28 = ni L.1 ∧ ∀ i, i < L.1 → I 172 i = ni (L.2 i).1 ∧ I 173 i = ni (L.2 i).2
def rLs (I I' : am_I) : Prop := ∀ o k, ¬ (o = 163 ∧ (k = 4 ∨ k = 28)) → o ≠ 172 → o ≠ 173 → I' o k = I o k
theorem rLs.rfl' {I : am_I} : rLs I I := fun _ _ _ _ _ => rfl
theorem rLs.trans {I I' I'' : am_I} (h : rLs I I') (g : rLs I' I'') : rLs I I'' := fun o k e1 e2 e3 => (g o k e1 e2 e3).trans (h o k e1 e2 e3)
theorem rLs.at {I : am_I} {v : Int32} : rLs I (am_u I 163 4 v) := fun o k e1 _ _ => am_u_nq (by omega)
theorem rLs.fr {I I' : am_I} (h : rLs I I') : rFr I I' := fun o k e => h o k (fun z => e (by unfold rSc; omega)) (fun z => e (by unfold rSc; omega)) (fun z => e (by unfold rSc; omega))
theorem rLw.u {I : am_I} {L : LW} {k : Nat} {v : Int32} (h : rLw I L) (hk : k ≠ 28) : rLw (am_u I 163 k v) L := ⟨by rw [am_u_nq (by omega)]; exact h.1, fun i hi => by rw [am_u_nq (by omega), am_u_nq (by omega)]; exact h.2 i hi⟩
def rUp (I : am_I) (k v : Int32) : am_I := am_u (am_u (am_u I 172 (I 163 28).toNatClampNeg k) 173 (I 163 28).toNatClampNeg v) 163 28 ((I 163 28) + 1)
theorem rLw.add {I : am_I} {L : LW} {k v : Nat} (h : rLw I L) (hc : L.1 < 150) : am_in (I 163 28) 150 = true ∧ rLw (rUp I (ni k) (ni v)) (lwAdd L k v) ∧ rLs I (rUp I (ni k) (ni v)) ∧ rUp I (ni k) (ni v) 163 4 = I 163 4 := by
  have e0 : (I 163 28).toNatClampNeg = L.1 := by rw [h.1, ni_nat (by omega)]
  refine ⟨by rw [h.1]; exact ni_in (by omega) hc, ⟨?_, fun i hi => ?_⟩, fun o j e1 e2 e3 => ?_, ?_⟩
  · unfold rUp
    rw [am_u_same, h.1, ni_p1]; rfl
  · unfold rUp lwAdd
    unfold lwAdd at hi
    dsimp only at hi ⊢
    rw [e0]
    by_cases c : i = L.1
    · subst c
      rw [if_pos rfl, am_u_nq (by omega), am_u_nq (by omega), am_u_same, am_u_nq (by omega), am_u_same]
      exact ⟨rfl, rfl⟩
    · rw [if_neg c, am_u_nq (by omega), am_u_nq (by omega), am_u_nq (by omega), am_u_nq (by omega), am_u_nq (by omega), am_u_nq (by omega)]
      exact h.2 i (by omega)
  · unfold rUp
    rw [am_u_nq (by omega), am_u_nq (by omega), am_u_nq (by omega)]
  · unfold rUp
    rw [am_u_nq (by omega), am_u_nq (by omega), am_u_nq (by omega)]
theorem RM.lup {b : Nat → Int32} {I : am_I} {n a : Nat} {k v : Int32} (h : RM I b n a) : RM (rUp I k v) b n a := by
  obtain ⟨h1, h2, h3, h4⟩ := h
  refine ⟨?_, ?_, ?_, h4⟩
  · funext i; unfold rUp; rw [am_u_nq (by omega), am_u_nq (by omega), am_u_nq (by omega), h1]
  · unfold rUp; rw [am_u_nq (by omega), am_u_nq (by omega), am_u_nq (by omega)]; exact h2
  · unfold rUp; rw [am_u_nq (by omega), am_u_nq (by omega), am_u_nq (by omega)]; exact h3
section LWR
variable {b : Nat → Int32} {n : Nat} {J : am_J} {Pf : am_R}
theorem sr_lu_nf (hp : am_PF Pf) {d : Nat} {P : am_O → Prop} {I : am_I} (h5 : ¬ I 163 5 = -1) (kk : P (.inl none, (am_SH, I, J, Pf), 0, 0)) : am_mth (d + 4) 238 [.ref 163] (am_SH, I, J, Pf) P := by
  refine am_mth_of rfl rfl (v238_0 hp ?_)
  rw [if_neg h5]
  exact kk
theorem sr_lp_nf (hp : am_PF Pf) {d : Nat} {P : am_O → Prop} {I : am_I} (h5 : ¬ I 163 5 = -1) (kk : P (.inl none, (am_SH, I, J, Pf), 0, 0)) : am_mth (d + 5) 235 [.ref 163] (am_SH, I, J, Pf) P := by
  refine am_mth_of rfl rfl (v235_0 hp (sr_lu_nf (d := d) hp h5 (am_back (v235_4 hp ?_))))
  rw [if_neg h5]
  exact kk
theorem sr_ls_nf (hp : am_PF Pf) {d : Nat} {P : am_O → Prop} {I : am_I} (h5 : ¬ I 163 5 = -1) (kk : P (.inl none, (am_SH, I, J, Pf), 0, 0)) : am_mth (d + 6) 234 [.ref 163] (am_SH, I, J, Pf) P := by
  refine am_mth_of rfl rfl (v234_0 hp (sr_lp_nf (d := d) hp h5 (am_back (v234_4 hp ?_))))
  rw [if_neg h5]
  exact kk
theorem fct_fc {q e : Nat} (h : ∀ i, i < e - q → isLt (b (q + i)) = true) : fctI (wv b q e) = fcV (fcN b q e) := by
  have e1 := wv_eq (x := 11) (by omega) (by omega) h
  have e2 := wv_eq (x := 12) (by omega) (by omega) h
  have e3 := wv_eq (x := 13) (by omega) (by omega) h
  have e4 := wv_eq (x := 14) (by omega) (by omega) h
  have e5 := wv_eq (x := 15) (by omega) (by omega) h
  have e6 := wv_eq (x := 16) (by omega) (by omega) h
  unfold fctI fcN
  simp only [e1, e2, e3, e4, e5, e6]
  by_cases c : nmB b q e (am_sb 9) = true
  · rw [if_pos c, if_pos c]; rfl
  rw [if_neg c, if_neg c]
  by_cases c : nmB b q e (am_sb 10) = true
  · rw [if_pos c, if_pos c]; rfl
  rw [if_neg c, if_neg c]
  by_cases c : nmB b q e (am_sb 11) = true
  · rw [if_pos c, if_pos c]; rfl
  rw [if_neg c, if_neg c]
  by_cases c : nmB b q e (am_sb 12) = true
  · rw [if_pos c, if_pos c]; rfl
  rw [if_neg c, if_neg c]
  by_cases c : nmB b q e (am_sb 13) = true
  · rw [if_pos c, if_pos c]; rfl
  rw [if_neg c, if_neg c]
  by_cases c : nmB b q e (am_sb 14) = true
  · rw [if_pos c, if_pos c]; rfl
  rw [if_neg c, if_neg c]; rfl

theorem rr_S (hp : am_PF Pf) {u : LW → Nat → (Nat × Nat) ⊕ (LW × Nat)} {d o a0 : Nat} (hn : n ≤ 150) {P : am_O → Prop}
    (hok : ∀ L a z, a ≤ n → u L a = .inr z → lwOk n L a z)
    (hu : ∀ (I : am_I) (L : LW) (a : Nat) (Q : am_O → Prop), a0 ≤ a → RM I b n a → I 163 5 = -1 → I 163 7 = ni o → rLw I L → L.1 ≤ a → rm2 (u L a) (fun z => ∀ I', RM I' b n z.2 → rLs I I' → rLw I' z.1 → Q (.inl none, (am_SH, I', J, Pf), 0, 0)) (fun kd pl => ∀ I', rFF I I' kd pl → pl ≤ 600 → Q (.inl none, (am_SH, I', J, Pf), 0, 0)) → am_mth (d + 2) 235 [.ref 163] (am_SH, I, J, Pf) Q) :
    ∀ (G : Nat) (I : am_I) (L : LW) (a : Nat) (l1 : Option Value), n - a < G → a0 ≤ a + 1 → RM I b n a → I 163 5 = -1 → I 163 7 = ni o → rLw I L → L.1 ≤ a →
    rm2 (lwLoop b n u opS G L a) (fun z => ∀ I', RM I' b n z.2 → rLs I I' → rLw I' z.1 → P (.inl none, (am_SH, I', J, Pf), 0, 0)) (fun kd pl => ∀ I', rFF I I' kd pl → pl ≤ 600 → P (.inl none, (am_SH, I', J, Pf), 0, 0)) →
    am_go none (d + 2) 234 (4, [some (.ref 163), l1], [], (am_SH, I, J, Pf), 0, 0) P := by
  intro G
  induction G with
  | zero => intro I L a l1 hG; omega
  | succ G ih =>
    intro I L a l1 hG ha0 h h5 h7 hL hLa kk
    have han := h.2.2.2.1
    have hq := rsk_le (b := b) han
    have hqq := rsk_rsk (b := b) han
    unfold lwLoop at kk
    refine v234_4 hp ?_
    rw [if_pos h5]
    have hR := h.at hq.2
    have g5 : am_u I 163 4 (ni (rsk b n a)) 163 5 = -1 := u_5 (by omega) h5
    have again : ∀ (Q : am_O → Prop), Q (.inl (some (.int (hz b n (rsk b n a)))), (am_SH, am_u I 163 4 (ni (rsk b n a)), J, Pf), 0, 0) → am_mth (d + 2) 195 [.ref 163] (am_SH, am_u I 163 4 (ni (rsk b n a)), J, Pf) Q := by
      intro Q k
      refine sr_here (d := d + 1) hp hR ?_
      rw [hqq, am_u_u]
      exact k
    refine sr_here (d := d + 1) hp h (am_back (v234_15 hp ?_))
    have stop : opS (hz b n (rsk b n a)) = 0 → P (.inl none, (am_SH, am_u I 163 4 (ni (rsk b n a)), J, Pf), 0, 0) := by
      intro c
      rw [if_pos c] at kk
      exact kk _ hR rLs.at (hL.u (by omega))
    have go : ∀ (kd : Nat), opS (hz b n (rsk b n a)) = kd → kd ≠ 0 → am_mth (d + 2) 235 [.ref 163] (am_SH, am_u (am_u I 163 4 (ni (rsk b n a))) 163 4 (am_u I 163 4 (ni (rsk b n a)) 163 4 + 1), J, Pf) (am_af none (d + 2) 234 55 [some (.ref 163), some (.int (ni kd))] [.ref 163] [] (am_SH, am_u (am_u I 163 4 (ni (rsk b n a))) 163 4 (am_u I 163 4 (ni (rsk b n a)) 163 4 + 1), J, Pf) 0 0 true P) := by
      intro kd c c0
      have hlt := hz_0 (b := b) (n := n) (a := rsk b n a) rfl (opS_ne (by rw [c]; exact c0))
      rw [if_neg (by rw [c]; exact c0), c] at kk
      rw [am_u_same, am_u_u, ni_p1]
      have hR2 := h.at (a' := rsk b n a + 1) (by omega)
      have s4 : rLs I (am_u I 163 4 (ni (rsk b n a + 1))) := rLs.at
      refine hu _ L (rsk b n a + 1) _ (by omega) hR2 (u_5 (by omega) h5) (by rw [am_u_nq (by omega)]; exact h7) (hL.u (by omega)) (by omega) ?_
      cases hm : u L (rsk b n a + 1) with
      | inl e =>
        rw [hm] at kk
        intro I' hF hpl
        have hb5 := hF.bad (by omega)
        refine am_back (v234_58 hp ?_)
        rw [if_neg hb5]
        refine v234_4 hp ?_
        rw [if_neg hb5]
        exact kk I' (rFF.after s4.fr hF) hpl
      | inr z =>
        rw [hm] at kk
        dsimp only [rb] at kk
        intro I' hR' hs hL'
        obtain ⟨k1, k2, k3⟩ := hok _ _ _ (by omega) hm
        have sI : rLs I I' := s4.trans hs
        have i5 : I' 163 5 = -1 := by rw [sI _ _ (by omega) (by omega) (by omega)]; exact h5
        refine am_back (v234_58 hp ?_)
        rw [if_pos i5]
        obtain ⟨q1, q3, q4, q5⟩ := hL'.add (k := kd) (v := 0) (by omega)
        refine ⟨q1, q1, ?_⟩
        have sI2 := sI.trans q4
        refine ih (rUp I' (ni kd) (ni 0)) (lwAdd z.1 kd 0) z.2 _ (by omega) (by omega) hR'.lup ?_ ?_ q3 (by show z.1.1 + 1 ≤ z.2; omega) ?_
        · rw [sI2 _ _ (by omega) (by omega) (by omega)]; exact h5
        · rw [sI2 _ _ (by omega) (by omega) (by omega)]; exact h7
        · revert kk
          cases lwLoop b n u opS G (lwAdd z.1 kd 0) z.2 with
          | inl e => exact fun kk I'' hF hpl => kk I'' (rFF.after sI2.fr hF) hpl
          | inr y => exact fun kk I'' g1 g2 g3 => kk I'' g1 (sI2.trans g2) g3
    by_cases c0 : hz b n (rsk b n a) = 43
    · rw [if_pos c0]
      refine again _ (am_back (v234_33 hp ?_))
      rw [if_pos c0]
      exact go 2 (by rw [c0]; rfl) (by omega)
    rw [if_neg c0]
    refine again _ (am_back (v234_24 hp ?_))
    by_cases c1 : hz b n (rsk b n a) = 45
    · rw [if_pos c1]
      refine again _ (am_back (v234_33 hp ?_))
      rw [if_neg c0]
      exact go 3 (by rw [c1]; rfl) (by omega)
    rw [if_neg c1]
    exact stop (by unfold opS; rw [if_neg c0, if_neg c1])


theorem rr_P (hp : am_PF Pf) {u : LW → Nat → (Nat × Nat) ⊕ (LW × Nat)} {d o a0 : Nat} (hn : n ≤ 150) {P : am_O → Prop}
    (hok : ∀ L a z, a ≤ n → u L a = .inr z → lwOk n L a z)
    (hu : ∀ (I : am_I) (L : LW) (a : Nat) (Q : am_O → Prop), a0 ≤ a → RM I b n a → I 163 5 = -1 → I 163 7 = ni o → rLw I L → L.1 ≤ a → rm2 (u L a) (fun z => ∀ I', RM I' b n z.2 → rLs I I' → rLw I' z.1 → Q (.inl none, (am_SH, I', J, Pf), 0, 0)) (fun kd pl => ∀ I', rFF I I' kd pl → pl ≤ 600 → Q (.inl none, (am_SH, I', J, Pf), 0, 0)) → am_mth (d + 2) 238 [.ref 163] (am_SH, I, J, Pf) Q) :
    ∀ (G : Nat) (I : am_I) (L : LW) (a : Nat) (l1 : Option Value), n - a < G → a0 ≤ a + 1 → RM I b n a → I 163 5 = -1 → I 163 7 = ni o → rLw I L → L.1 ≤ a →
    rm2 (lwLoop b n u opP G L a) (fun z => ∀ I', RM I' b n z.2 → rLs I I' → rLw I' z.1 → P (.inl none, (am_SH, I', J, Pf), 0, 0)) (fun kd pl => ∀ I', rFF I I' kd pl → pl ≤ 600 → P (.inl none, (am_SH, I', J, Pf), 0, 0)) →
    am_go none (d + 2) 235 (4, [some (.ref 163), l1], [], (am_SH, I, J, Pf), 0, 0) P := by
  intro G
  induction G with
  | zero => intro I L a l1 hG; omega
  | succ G ih =>
    intro I L a l1 hG ha0 h h5 h7 hL hLa kk
    have han := h.2.2.2.1
    have hq := rsk_le (b := b) han
    have hqq := rsk_rsk (b := b) han
    unfold lwLoop at kk
    refine v235_4 hp ?_
    rw [if_pos h5]
    have hR := h.at hq.2
    have g5 : am_u I 163 4 (ni (rsk b n a)) 163 5 = -1 := u_5 (by omega) h5
    have again : ∀ (Q : am_O → Prop), Q (.inl (some (.int (hz b n (rsk b n a)))), (am_SH, am_u I 163 4 (ni (rsk b n a)), J, Pf), 0, 0) → am_mth (d + 2) 195 [.ref 163] (am_SH, am_u I 163 4 (ni (rsk b n a)), J, Pf) Q := by
      intro Q k
      refine sr_here (d := d + 1) hp hR ?_
      rw [hqq, am_u_u]
      exact k
    refine sr_here (d := d + 1) hp h (am_back (v235_15 hp ?_))
    have stop : opP (hz b n (rsk b n a)) = 0 → P (.inl none, (am_SH, am_u I 163 4 (ni (rsk b n a)), J, Pf), 0, 0) := by
      intro c
      rw [if_pos c] at kk
      exact kk _ hR rLs.at (hL.u (by omega))
    have go : ∀ (kd : Nat), opP (hz b n (rsk b n a)) = kd → kd ≠ 0 → am_mth (d + 2) 238 [.ref 163] (am_SH, am_u (am_u I 163 4 (ni (rsk b n a))) 163 4 (am_u I 163 4 (ni (rsk b n a)) 163 4 + 1), J, Pf) (am_af none (d + 2) 235 78 [some (.ref 163), some (.int (ni kd))] [.ref 163] [] (am_SH, am_u (am_u I 163 4 (ni (rsk b n a))) 163 4 (am_u I 163 4 (ni (rsk b n a)) 163 4 + 1), J, Pf) 0 0 true P) := by
      intro kd c c0
      have hlt := hz_0 (b := b) (n := n) (a := rsk b n a) rfl (opP_ne (by rw [c]; exact c0))
      rw [if_neg (by rw [c]; exact c0), c] at kk
      rw [am_u_same, am_u_u, ni_p1]
      have hR2 := h.at (a' := rsk b n a + 1) (by omega)
      have s4 : rLs I (am_u I 163 4 (ni (rsk b n a + 1))) := rLs.at
      refine hu _ L (rsk b n a + 1) _ (by omega) hR2 (u_5 (by omega) h5) (by rw [am_u_nq (by omega)]; exact h7) (hL.u (by omega)) (by omega) ?_
      cases hm : u L (rsk b n a + 1) with
      | inl e =>
        rw [hm] at kk
        intro I' hF hpl
        have hb5 := hF.bad (by omega)
        refine am_back (v235_81 hp ?_)
        rw [if_neg hb5]
        refine v235_4 hp ?_
        rw [if_neg hb5]
        exact kk I' (rFF.after s4.fr hF) hpl
      | inr z =>
        rw [hm] at kk
        dsimp only [rb] at kk
        intro I' hR' hs hL'
        obtain ⟨k1, k2, k3⟩ := hok _ _ _ (by omega) hm
        have sI : rLs I I' := s4.trans hs
        have i5 : I' 163 5 = -1 := by rw [sI _ _ (by omega) (by omega) (by omega)]; exact h5
        refine am_back (v235_81 hp ?_)
        rw [if_pos i5]
        obtain ⟨q1, q3, q4, q5⟩ := hL'.add (k := kd) (v := 0) (by omega)
        refine ⟨q1, q1, ?_⟩
        have sI2 := sI.trans q4
        refine ih (rUp I' (ni kd) (ni 0)) (lwAdd z.1 kd 0) z.2 _ (by omega) (by omega) hR'.lup ?_ ?_ q3 (by show z.1.1 + 1 ≤ z.2; omega) ?_
        · rw [sI2 _ _ (by omega) (by omega) (by omega)]; exact h5
        · rw [sI2 _ _ (by omega) (by omega) (by omega)]; exact h7
        · revert kk
          cases lwLoop b n u opP G (lwAdd z.1 kd 0) z.2 with
          | inl e => exact fun kk I'' hF hpl => kk I'' (rFF.after sI2.fr hF) hpl
          | inr y => exact fun kk I'' g1 g2 g3 => kk I'' g1 (sI2.trans g2) g3
    by_cases c0 : hz b n (rsk b n a) = 42
    · rw [if_pos c0]
      refine again _ (am_back (v235_42 hp ?_))
      rw [if_pos c0]
      exact go 4 (by rw [c0]; rfl) (by omega)
    rw [if_neg c0]
    refine again _ (am_back (v235_24 hp ?_))
    by_cases c1 : hz b n (rsk b n a) = 47
    · rw [if_pos c1]
      refine again _ (am_back (v235_42 hp ?_))
      rw [if_neg c0]
      refine again _ (am_back (v235_55 hp ?_))
      rw [if_pos c1]
      exact go 5 (by rw [c1]; rfl) (by omega)
    rw [if_neg c1]
    refine again _ (am_back (v235_33 hp ?_))
    by_cases c2 : hz b n (rsk b n a) = 37
    · rw [if_pos c2]
      refine again _ (am_back (v235_42 hp ?_))
      rw [if_neg c0]
      refine again _ (am_back (v235_55 hp ?_))
      rw [if_neg c1]
      exact go 8 (by rw [c2]; rfl) (by omega)
    rw [if_neg c2]
    exact stop (by unfold opP; rw [if_neg c0, if_neg c1, if_neg c2])

/-- a pair's rest, behind a fault -/
theorem rr_pair_nf (hp : am_PF Pf) {d : Nat} {P : am_O → Prop} {l1 : Option Value} {x2 : Int32} {I : am_I} (h5 : ¬ I 163 5 = -1) (kk : P (.inl none, (am_SH, am_u I 163 7 (I 163 7 - 1), J, Pf), 0, 0)) :
    (am_go none (d + 8) 236 (31, [some (.ref 163), l1, some (.int x2)], [], (am_SH, I, J, Pf), 0, 0) P ∧ am_go none (d + 8) 236 (25, [some (.ref 163), l1, some (.int x2)], [], (am_SH, I, J, Pf), 0, 0) P) ∧ (am_go none (d + 8) 236 (21, [some (.ref 163), l1, some (.int x2)], [], (am_SH, I, J, Pf), 0, 0) P ∧ am_go none (d + 8) 236 (15, [some (.ref 163), l1, some (.int x2)], [], (am_SH, I, J, Pf), 0, 0) P) ∧ am_go none (d + 8) 236 (11, [some (.ref 163), l1, some (.int x2)], [], (am_SH, I, J, Pf), 0, 0) P := by
  have p31 : am_go none (d + 8) 236 (31, [some (.ref 163), l1, some (.int x2)], [], (am_SH, I, J, Pf), 0, 0) P := by
    refine v236_31 hp ?_
    rw [if_neg h5]
    exact kk
  have p25 : am_go none (d + 8) 236 (25, [some (.ref 163), l1, some (.int x2)], [], (am_SH, I, J, Pf), 0, 0) P := v236_25 hp (sr_need_nf (d := d + 5) hp h5 (am_back p31))
  have p21 : am_go none (d + 8) 236 (21, [some (.ref 163), l1, some (.int x2)], [], (am_SH, I, J, Pf), 0, 0) P := v236_21 hp (sr_ls_nf (d := d + 2) hp h5 (am_back p25))
  have p15 : am_go none (d + 8) 236 (15, [some (.ref 163), l1, some (.int x2)], [], (am_SH, I, J, Pf), 0, 0) P := v236_15 hp (sr_need_nf (d := d + 5) hp h5 (am_back p21))
  have p11 : am_go none (d + 8) 236 (11, [some (.ref 163), l1, some (.int x2)], [], (am_SH, I, J, Pf), 0, 0) P := v236_11 hp (sr_ls_nf (d := d + 2) hp h5 (am_back p15))
  exact ⟨⟨p31, p25⟩, ⟨p21, p15⟩, p11⟩
theorem sr_pair (hp : am_PF Pf) {s : LW → Nat → (Nat × Nat) ⊕ (LW × Nat)} {d o a0 kd0 ln : Nat} (hn : n ≤ 150) {P : am_O → Prop} (ho : o ≤ 6)
    (hok : ∀ L a z, a ≤ n → s L a = .inr z → lwOk n L a z)
    (hu : o < 6 → ∀ (D : Nat) (I : am_I) (L : LW) (a : Nat) (Q : am_O → Prop), d + 8 ≤ D → a0 < a → RM I b n a → I 163 5 = -1 → I 163 7 = ni (o + 1) → rLw I L → L.1 ≤ a → rm2 (s L a) (fun z => ∀ I', RM I' b n z.2 → rLs I I' → rLw I' z.1 → Q (.inl none, (am_SH, I', J, Pf), 0, 0)) (fun kd pl => ∀ I', rFF I I' kd pl → pl ≤ 600 → Q (.inl none, (am_SH, I', J, Pf), 0, 0)) → am_mth D 234 [.ref 163] (am_SH, I, J, Pf) Q)
    {I : am_I} {L : LW} {q : Nat} (ha : a0 ≤ q) (h : RM I b n q) (hq : q + ln ≤ n) (hln : 1 ≤ ln) (h5 : I 163 5 = -1) (h7 : I 163 7 = ni o) (hL : rLw I L) (hLa : L.1 ≤ q)
    (kk : rm2 (if o = 6 then .inl (3, q) else lwPair b n s kd0 L (q + ln)) (fun z => ∀ I', RM I' b n z.2 → rLs I I' → rLw I' z.1 → P (.inl none, (am_SH, I', J, Pf), 0, 0)) (fun kd pl => ∀ I', rFF I I' kd pl → pl ≤ 600 → P (.inl none, (am_SH, I', J, Pf), 0, 0))) :
    am_mth (d + 9) 236 [.ref 163, .int (ni ln), .int (ni kd0)] (am_SH, I, J, Pf) P := by
  have h4 := h.2.2.1
  have hn6 := h.2.2.2.2
  have six : (ni o = 6) ↔ o = 6 := leq 6 (by omega) (by omega)
  refine am_mth_of rfl rfl (v236_0 hp ?_)
  rw [if_pos h5, h7, h4]
  by_cases c6 : o = 6
  · rw [if_pos c6] at kk
    rw [if_pos (six.mpr c6), if_neg (ni_neg1 (by omega))]
    have hF : rFF I (am_u (am_u (am_u I 163 5 (ni q)) 163 6 3) 163 7 (ni o + 1)) 3 q := (rFF.mark rFr.rfl').then (rNF.rfl'.u (by simp [rSc]) (by omega))
    have b5 := hF.bad (by omega)
    refine sr_need_nf (d := d + 5) hp b5 (am_back ?_)
    refine (rr_pair_nf (d := d) hp b5 (kk _ (hF.then (rNF.rfl'.u (by simp [rSc]) (by omega))) (by show q ≤ 600; omega))).2.2
  rw [if_neg c6] at kk
  rw [if_neg (fun z => c6 (six.mp z))]
  have hu := hu (by omega)
  rw [ni_add, ni_p1]
  obtain ⟨I0, eI0⟩ : ∃ I0, I0 = am_u (am_u I 163 4 (ni (q + ln))) 163 7 (ni (o + 1)) := ⟨_, rfl⟩
  rw [← eI0]
  have zR : RM I0 b n (q + ln) := by
    obtain ⟨g1, g2, g3, g4, g6⟩ := h.at (a' := q + ln) hq
    rw [eI0]
    exact ⟨by rw [am_u_o (by omega)]; exact g1, (am_u_nq (by omega)).trans g2, (am_u_nq (by omega)).trans g3, g4, g6⟩
  have z5 : I0 163 5 = -1 := by rw [eI0]; exact u_5 (by omega) (u_5 (by omega) h5)
  have z7 : I0 163 7 = ni (o + 1) := by rw [eI0, am_u_same]
  have zL : rLw I0 L := by rw [eI0]; exact (hL.u (by omega)).u (by omega)
  have zfr : rFr I I0 := by rw [eI0]; exact (rFr.rfl'.u (by simp [rSc])).u (by simp [rSc])
  have zs : ∀ I', rLs I0 I' → rLs I (am_u I' 163 7 (ni o)) := fun I' hs o' k e1 e2 e3 => by
    by_cases c : o' = 163 ∧ k = 7
    · obtain ⟨rfl, rfl⟩ := c; rw [am_u_same]; exact h7.symm
    · rw [am_u_nq (by omega), hs o' k e1 e2 e3, eI0, am_u_nq (by omega), am_u_nq (by omega)]
  have pass : ∀ {I' : am_I}, rLs I0 I' → I' 163 5 = -1 ∧ I' 163 7 = ni (o + 1) := fun {I'} hs => ⟨by rw [hs _ _ (by omega) (by omega) (by omega)]; exact z5, by rw [hs _ _ (by omega) (by omega) (by omega)]; exact z7⟩
  have bad : ∀ (I1 I' : am_I) (kd pl : Nat), rLs I0 I1 → rFF I1 I' kd pl → rFF I (am_u I' 163 7 (I' 163 7 - 1)) kd pl := fun I1 I' kd pl hs hF => (rFF.after (zfr.trans hs.fr) hF).then (rNF.rfl'.u (by simp [rSc]) (by omega))
  unfold lwPair at kk
  refine sr_need (d := d + 5) hp (by decide) zR z5 ?_
  cases h1 : mTake b n 91 (q + ln) with
  | inl e =>
    rw [h1] at kk
    intro I' hF hpl
    exact am_back (rr_pair_nf (d := d) hp (hF.bad (by omega)) (kk _ (bad I0 I' _ _ rLs.rfl' hF) hpl)).2.2
  | inr e1 =>
    rw [h1] at kk
    dsimp only [rb] at kk
    have a1 := mTake_lt h1
    have a2 := mTake_le (by decide) h1
    intro hR1
    refine am_back (v236_11 hp ?_)
    have s1 : rLs I0 (am_u I0 163 4 (ni e1)) := rLs.at
    obtain ⟨p5, p7⟩ := pass s1
    refine hu (d + 8) _ L e1 _ (by omega) (by omega) hR1 p5 p7 (zL.u (by omega)) (by omega) ?_
    cases h2 : s L e1 with
    | inl e =>
      rw [h2] at kk
      intro I' hF hpl
      exact am_back (rr_pair_nf (d := d) hp (hF.bad (by omega)) (kk _ (bad _ I' _ _ s1 hF) hpl)).2.1.2
    | inr z1 =>
      rw [h2] at kk
      dsimp only at kk
      obtain ⟨b1, b2, b3⟩ := hok _ _ _ a2 h2
      intro I2 hR2 hs2 hL2
      refine am_back (v236_15 hp ?_)
      have s2 : rLs I0 I2 := s1.trans hs2
      obtain ⟨p5, p7⟩ := pass s2
      refine sr_need (d := d + 5) hp (by decide) hR2 p5 ?_
      cases h3 : mTake b n 44 z1.2 with
      | inl e =>
        rw [h3] at kk
        intro I' hF hpl
        exact am_back (rr_pair_nf (d := d) hp (hF.bad (by omega)) (kk _ (bad _ I' _ _ s2 hF) hpl)).2.1.1
      | inr e2 =>
        rw [h3] at kk
        dsimp only at kk
        have c1 := mTake_lt h3
        have c2 := mTake_le (by decide) h3
        intro hR3
        refine am_back (v236_21 hp ?_)
        have s3 : rLs I0 (am_u I2 163 4 (ni e2)) := s2.trans rLs.at
        obtain ⟨p5, p7⟩ := pass s3
        refine hu (d + 8) _ z1.1 e2 _ (by omega) (by omega) hR3 p5 p7 (hL2.u (by omega)) (by omega) ?_
        cases h6 : s z1.1 e2 with
        | inl e =>
          rw [h6] at kk
          intro I' hF hpl
          exact am_back (rr_pair_nf (d := d) hp (hF.bad (by omega)) (kk _ (bad _ I' _ _ s3 hF) hpl)).1.2
        | inr z2 =>
          rw [h6] at kk
          dsimp only at kk
          obtain ⟨d1, d2, d3⟩ := hok _ _ _ c2 h6
          intro I4 hR4 hs4 hL4
          refine am_back (v236_25 hp ?_)
          have s4 : rLs I0 I4 := s3.trans hs4
          obtain ⟨p5, p7⟩ := pass s4
          refine sr_need (d := d + 5) hp (by decide) hR4 p5 ?_
          cases h8 : mTake b n 93 z2.2 with
          | inl e =>
            rw [h8] at kk
            intro I' hF hpl
            exact am_back (rr_pair_nf (d := d) hp (hF.bad (by omega)) (kk _ (bad _ I' _ _ s4 hF) hpl)).1.1
          | inr e3 =>
            rw [h8] at kk
            have f1 := mTake_lt h8
            have f2 := mTake_le (by decide) h8
            intro hR5
            refine am_back (v236_31 hp ?_)
            obtain ⟨I5, eI5⟩ : ∃ I5, I5 = am_u I4 163 4 (ni e3) := ⟨_, rfl⟩
            rw [← eI5] at hR5 ⊢
            have s5 : rLs I0 I5 := by rw [eI5]; exact s4.trans rLs.at
            obtain ⟨p5, p7⟩ := pass s5
            have hL5 : rLw I5 z2.1 := by rw [eI5]; exact hL4.u (by omega)
            rw [if_pos p5]
            have e7 : I5 163 7 - 1 = ni o := by rw [p7]; exact ni_sub (a := o + 1) (b := 1) (by omega)
            have hL6 : rLw (am_u I5 163 7 (ni o)) z2.1 := hL5.u (by omega)
            obtain ⟨q1, q3, q4, q5⟩ := hL6.add (k := kd0) (v := 0) (by omega)
            have e28 : am_u I5 163 7 (ni o) 163 28 = I5 163 28 := am_u_nq (by omega)
            rw [e28] at q1
            rw [e7]
            refine ⟨q1, q1, ?_⟩
            have hfin := kk (rUp (am_u I5 163 7 (ni o)) (ni kd0) (ni 0)) (RM.lup ⟨by rw [am_u_o (by omega)] <;> first | exact hR5.1 | (funext k; rw [am_u_nq (by omega), hR5.1]), (am_u_nq (by omega)).trans hR5.2.1, (am_u_nq (by omega)).trans hR5.2.2.1, hR5.2.2.2⟩) ((zs _ s5).trans q4) q3
            unfold rUp at hfin
            rw [e28] at hfin
            exact hfin
end LWR
