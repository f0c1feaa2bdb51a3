/-! A law's text: the reference reads units, and all -/
section LWV
variable {b : Nat → Int32} {n : Nat} {J : am_J} {Pf : am_R}
theorem RM.l4 {I : am_I} {a k : Nat} {v : Int32} (h : RM I b n a) (h3 : k ≠ 3) (h4 : k ≠ 4) : RM (am_u I 163 k v) b n a := ⟨by rw [am_u_o (by omega)]; exact h.1, (am_u_nq (by omega)).trans h.2.1, (am_u_nq (by omega)).trans h.2.2.1, h.2.2.2⟩
theorem sr_lunit (hp : am_PF Pf) {s : LW → Nat → (Nat × Nat) ⊕ (LW × Nat)} {d o a : Nat} (hn : n ≤ 150) {P : am_O → Prop} (ho : o ≤ 6)
    (hok : ∀ L a z, a ≤ n → s L a = .inr z → lwOk n L a z)
    (hu : o < 6 → ∀ (D : Nat) (I : am_I) (L : LW) (a1 : Nat) (Q : am_O → Prop), d + 8 ≤ D → a < a1 → RM I b n a1 → I 163 5 = -1 → I 163 7 = ni (o + 1) → rLw I L → L.1 ≤ a1 → rm2 (s L a1) (fun z => ∀ I', RM I' b n z.2 → rLs I I' → rLw I' z.1 → Q (.inl none, (am_SH, I', J, Pf), 0, 0)) (fun kd pl => ∀ I', rFF I I' kd pl → pl ≤ 600 → Q (.inl none, (am_SH, I', J, Pf), 0, 0)) → am_mth D 234 [.ref 163] (am_SH, I, J, Pf) Q)
    {I : am_I} {L : LW} (h : RM I b n a) (h5 : I 163 5 = -1) (h7 : I 163 7 = ni o) (hL : rLw I L) (hLa : L.1 ≤ a)
    (kk : rm2 (lwUnit b n s o L a) (fun z => ∀ I', RM I' b n z.2 → rLs I I' → rLw I' z.1 → P (.inl none, (am_SH, I', J, Pf), 0, 0)) (fun kd pl => ∀ I', rFF I I' kd pl → pl ≤ 600 → P (.inl none, (am_SH, I', J, Pf), 0, 0))) :
    am_mth (d + 10) 238 [.ref 163] (am_SH, I, J, Pf) P := by
  have han := h.2.2.2.1
  have hn6 := h.2.2.2.2
  have hq := rsk_le (b := b) han
  have hqq := rsk_rsk (b := b) han
  have hne := mNE_le (b := b) han
  have hR := h.at hq.2
  have six : (ni o = 6) ↔ o = 6 := leq 6 (by omega) (by omega)
  have s0 : rLs I (am_u I 163 4 (ni (rsk b n a))) := rLs.at
  have g5 : am_u I 163 4 (ni (rsk b n a)) 163 5 = -1 := u_5 (by omega) h5
  have g7 : am_u I 163 4 (ni (rsk b n a)) 163 7 = ni o := (am_u_nq (by omega)).trans h7
  have gL : rLw (am_u I 163 4 (ni (rsk b n a))) L := hL.u (by omega)
  have eNE : mNE b n (rsk b n a) = mNE b n a := by unfold mNE; rw [hqq]
  have q1 : ¬ (ni (rsk b n a) = -1) := ni_neg1 (by omega)
  unfold lwUnit at kk
  refine am_mth_of rfl rfl (v238_0 hp ?_)
  rw [if_pos h5]
  refine sr_here (d := d + 8) hp h (am_back (v238_12 hp ?_))
  by_cases c40 : hz b n (rsk b n a) = 40
  · have cd : ¬ isDg (hz b n (rsk b n a)) = true := by rw [c40]; decide
    have hlt := hz_0 c40 (by decide)
    rw [if_neg cd, if_pos c40] at kk
    rw [if_pos c40, if_pos g5, g7, am_u_same]
    by_cases c6 : o = 6
    · rw [if_pos c6] at kk
      rw [if_pos (six.mpr c6), if_neg q1]
      have hF : rFF I (am_u (am_u (am_u (am_u I 163 4 (ni (rsk b n a))) 163 5 (ni (rsk b n a))) 163 6 3) 163 7 (ni o + 1)) 3 (rsk b n a) := (rFF.mark (rFr.rfl'.u (by simp [rSc]))).then (rNF.rfl'.u (by simp [rSc]) (by omega))
      have b5 := hF.bad (by omega)
      refine sr_ls_nf (d := d + 3) hp b5 (am_back (v238_26 hp (sr_need_nf (d := d + 6) hp b5 (am_back (v238_32 hp ?_)))))
      exact kk _ (hF.then (rNF.rfl'.u (by simp [rSc]) (by omega))) (by show rsk b n a ≤ 600; omega)
    rw [if_neg c6] at kk
    rw [if_neg (fun z => c6 (six.mp z)), ni_p1, ni_p1, am_u_u]
    have hu := hu (by omega)
    obtain ⟨I0, eI0⟩ : ∃ I0, I0 = am_u (am_u I 163 4 (ni (rsk b n a + 1))) 163 7 (ni (o + 1)) := ⟨_, rfl⟩
    rw [← eI0]
    have zR : RM I0 b n (rsk b n a + 1) := by rw [eI0]; exact (h.at (a' := rsk b n a + 1) (by omega)).l4 (by omega) (by omega)
    have z5 : I0 163 5 = -1 := by rw [eI0]; exact u_5 (by omega) (u_5 (by omega) h5)
    have z7 : I0 163 7 = ni (o + 1) := by rw [eI0, am_u_same]
    have zL : rLw I0 L := by rw [eI0]; exact (hL.u (by omega)).u (by omega)
    have zfr : rFr I I0 := by rw [eI0]; exact (rFr.rfl'.u (by simp [rSc])).u (by simp [rSc])
    have zs : ∀ I', rLs I0 I' → rLs I (am_u I' 163 7 (ni o)) := fun I' hs o' k e1 e2 e3 => by
      by_cases c : o' = 163 ∧ k = 7
      · obtain ⟨rfl, rfl⟩ := c; rw [am_u_same]; exact h7.symm
      · rw [am_u_nq (by omega), hs o' k e1 e2 e3, eI0, am_u_nq (by omega), am_u_nq (by omega)]
    have bad : ∀ (I1 I' : am_I) (kd pl : Nat), rLs I0 I1 → rFF I1 I' kd pl → rFF I (am_u I' 163 7 (I' 163 7 - 1)) kd pl := fun I1 I' kd pl hs hF => (rFF.after (zfr.trans hs.fr) hF).then (rNF.rfl'.u (by simp [rSc]) (by omega))
    refine hu (d + 9) I0 L (rsk b n a + 1) _ (by omega) (by omega) zR z5 z7 zL (by omega) ?_
    cases hm : s L (rsk b n a + 1) with
    | inl e =>
      rw [hm] at kk
      intro I' hF hpl
      refine am_back (v238_26 hp (sr_need_nf (d := d + 6) hp (hF.bad (by omega)) (am_back (v238_32 hp ?_))))
      exact kk _ (bad I0 I' _ _ rLs.rfl' hF) hpl
    | inr z =>
      rw [hm] at kk
      dsimp only [rb] at kk
      intro I1 hR1 hs1 hL1
      refine am_back (v238_26 hp ?_)
      have p5 : I1 163 5 = -1 := by rw [hs1 _ _ (by omega) (by omega) (by omega)]; exact z5
      have p7 : I1 163 7 = ni (o + 1) := by rw [hs1 _ _ (by omega) (by omega) (by omega)]; exact z7
      refine sr_need (d := d + 6) hp (by decide) hR1 p5 ?_
      cases h3 : mTake b n 41 z.2 with
      | inl e =>
        rw [h3] at kk
        intro I' hF hpl
        refine am_back (v238_32 hp ?_)
        exact kk _ (bad _ I' _ _ hs1 hF) hpl
      | inr e3 =>
        rw [h3] at kk
        intro hR2
        refine am_back (v238_32 hp ?_)
        have e7 : am_u I1 163 4 (ni e3) 163 7 - 1 = ni o := by rw [am_u_nq (by omega), p7]; exact ni_sub (a := o + 1) (b := 1) (by omega)
        rw [e7]
        exact kk _ (hR2.l4 (by omega) (by omega)) (zs _ (hs1.trans rLs.at)) ((hL1.u (by omega)).u (by omega))
  rw [if_neg c40] at kk ⊢
  have again : ∀ (Q : am_O → Prop), Q (.inl (some (.int (hz b n (rsk b n a)))), (am_SH, am_u I 163 4 (ni (rsk b n a)), J, Pf), 0, 0) → am_mth (d + 9) 195 [.ref 163] (am_SH, am_u I 163 4 (ni (rsk b n a)), J, Pf) Q := by
    intro Q k
    refine sr_here (d := d + 8) hp hR ?_
    rw [hqq, am_u_u]
    exact k
  refine again _ (am_back (v238_49 hp ?_))
  have dg := isDg_d (x := hz b n (rsk b n a))
  have nmA : ∀ (Q : am_O → Prop), Q (.inl (some (.int (wv b (rsk b n a) (mNE b n a)))), (am_SH, am_u I 163 4 (ni (rsk b n a)), J, Pf), 0, 0) → am_mth (d + 9) 198 [.ref 163] (am_SH, am_u I 163 4 (ni (rsk b n a)), J, Pf) Q := by
    intro Q k
    refine sr_name (d := d + 6) hp hR (fun _ => ?_)
    rw [hqq, eNE, am_u_u]
    exact k
  have NM : ¬ isDg (hz b n (rsk b n a)) = true → am_mth (d + 9) 198 [.ref 163] (am_SH, am_u I 163 4 (ni (rsk b n a)), J, Pf) (am_af none (d + 9) 238 72 [some (.ref 163), none] [.ref 163] [] (am_SH, am_u I 163 4 (ni (rsk b n a)), J, Pf) 0 0 true P) := by
    intro cd
    rw [if_neg cd] at kk
    have hall : ∀ i, i < mNE b n a - rsk b n a → isLt (b (rsk b n a + i)) = true := fun i hi => ltF_all _ _ i hi
    have e9 := wv_eq (x := 9) (by omega) (by omega) hall
    have e10 := wv_eq (x := 10) (by omega) (by omega) hall
    have sb7 : (am_sb 7).length = 5 := by decide +kernel
    have sb8 : (am_sb 8).length = 4 := by decide +kernel
    refine nmA _ (am_back (v238_75 hp (sr_of (d := d + 4) hp rfl (by decide) (am_back (v238_81 hp ?_)))))
    by_cases c7 : nmB b (rsk b n a) (mNE b n a) (am_sb 7) = true
    · rw [if_pos c7] at kk
      rw [if_pos (e9.mpr c7)]
      have hat := nmB_at c7 (by omega)
      rw [sb7] at hat
      rw [hat] at kk
      refine sr_pair (a0 := a) (ln := 5) (kd0 := 6) hp hn ho hok hu (by omega) hR (by omega) (by omega) g5 g7 gL (by omega) ?_
      revert kk
      generalize (if o = 6 then Sum.inl (3, rsk b n a) else lwPair b n s 6 L (rsk b n a + 5) : (Nat × Nat) ⊕ (LW × Nat)) = mm
      cases mm with
      | inl e => exact fun kk I' hF hpl => am_back (v238_91 hp (kk I' (rFF.after s0.fr hF) hpl))
      | inr z => exact fun kk I' g1 g2 g3 => am_back (v238_91 hp (kk I' g1 (s0.trans g2) g3))
    rw [if_neg c7] at kk
    rw [if_neg (fun z => c7 (e9.mp z))]
    refine nmA _ (am_back (v238_98 hp (sr_of (d := d + 4) hp rfl (by decide) (am_back (v238_104 hp ?_)))))
    by_cases c8 : nmB b (rsk b n a) (mNE b n a) (am_sb 8) = true
    · rw [if_pos c8] at kk
      rw [if_pos (e10.mpr c8)]
      have hat := nmB_at c8 (by omega)
      rw [sb8] at hat
      rw [hat] at kk
      refine sr_pair (a0 := a) (ln := 4) (kd0 := 7) hp hn ho hok hu (by omega) hR (by omega) (by omega) g5 g7 gL (by omega) ?_
      revert kk
      generalize (if o = 6 then Sum.inl (3, rsk b n a) else lwPair b n s 7 L (rsk b n a + 4) : (Nat × Nat) ⊕ (LW × Nat)) = mm
      cases mm with
      | inl e => exact fun kk I' hF hpl => am_back (v238_114 hp (kk I' (rFF.after s0.fr hF) hpl))
      | inr z => exact fun kk I' g1 g2 g3 => am_back (v238_114 hp (kk I' g1 (s0.trans g2) g3))
    rw [if_neg c8] at kk
    rw [if_neg (fun z => c8 (e10.mp z))]
    refine sr_fact (d := d + 3) hp hR (fun hR2 => ?_)
    rw [hqq, eNE, am_u_u, fct_fc hall]
    refine am_back (v238_121 hp ?_)
    by_cases c0 : fcN b (rsk b n a) (mNE b n a) = 0
    · rw [if_pos c0] at kk
      rw [c0, if_pos (show fcV 0 = -1 from rfl), if_pos g5, am_u_same, if_neg q1]
      exact kk _ (rFF.mark (rFr.rfl'.u (by simp [rSc]))) (by show rsk b n a ≤ 600; omega)
    · rw [if_neg c0] at kk
      have f6 := (fcN_lt c0).2
      have ef : fcV (fcN b (rsk b n a) (mNE b n a)) = ni (fcN b (rsk b n a) (mNE b n a) - 1) := if_neg c0
      rw [ef, if_neg (ni_neg1 (by omega)), if_pos g5]
      refine sr_pass (d := d + 7) hp hR (fun hR3 => am_back (v238_148 hp ?_))
      have eE : ltF b (n - rsk b n a) (rsk b n a) = mNE b n a := rfl
      rw [eE, am_u_u] at hR3
      rw [eE, am_u_u, if_pos (u_5 (by omega) h5)]
      have lt1 := (fcN_lt c0).1
      obtain ⟨k1, k3, k4, k5⟩ := (hL.u (k := 4) (v := ni (mNE b n a)) (by omega)).add (k := 1) (v := fcN b (rsk b n a) (mNE b n a) - 1) (by omega)
      exact ⟨k1, k1, kk (rUp (am_u I 163 4 (ni (mNE b n a))) (ni 1) (ni (fcN b (rsk b n a) (mNE b n a) - 1))) hR3.lup (rLs.at.trans k4) k3⟩
  by_cases q3 : hz b n (rsk b n a) < 48
  · rw [if_pos q3]
    exact NM (fun z => (dg.mp z).1 q3)
  rw [if_neg q3]
  by_cases q4 : 57 < hz b n (rsk b n a)
  · rw [if_pos q4]
    exact NM (fun z => (dg.mp z).2 q4)
  rw [if_neg q4]
  rw [if_pos (dg.mpr ⟨q3, q4⟩)] at kk
  refine sr_num (lim := 1000) (d := d + 6) hp (by omega) hR g5 ?_
  have eN : mNum b n 1000 (rsk b n a) = mNum b n 1000 a := by unfold mNum; rw [hqq]
  rw [eN]
  cases hm : mNum b n 1000 a with
  | inl e =>
    rw [hm] at kk
    intro I' hF hpl
    refine am_back (v238_65 hp ?_)
    rw [if_neg (hF.bad (by omega))]
    exact kk I' (rFF.after s0.fr hF) hpl
  | inr z =>
    rw [hm] at kk
    dsimp only [rb] at kk
    have z1 := mNum_lt hm
    have z3 := mNum_le han hm
    intro hR' hz1
    rw [am_u_u] at hR' ⊢
    refine am_back (v238_65 hp ?_)
    rw [if_pos (u_5 (by omega) h5)]
    obtain ⟨k1, k3, k4, k5⟩ := (hL.u (k := 4) (v := ni z.2) (by omega)).add (k := 0) (v := z.1) (by omega)
    exact ⟨k1, k1, kk (rUp (am_u I 163 4 (ni z.2)) (ni 0) (ni z.1)) hR'.lup (rLs.at.trans k4) k3⟩
/-- a sum, a product, a unit -/
theorem sr_lw (hp : am_PF Pf) (hn : n ≤ 150) : ∀ (F m o a d : Nat) (I : am_I) (L : LW) (P : am_O → Prop), m ≤ 2 → 3 * (n - a) + (3 - m) ≤ F → o ≤ 6 → 12 + 4 * (6 - o) + (2 - m) ≤ d → RM I b n a → I 163 5 = -1 → I 163 7 = ni o → rLw I L → L.1 ≤ a →
    rm2 (mLw b n F o m L a) (fun z => ∀ I', RM I' b n z.2 → rLs I I' → rLw I' z.1 → P (.inl none, (am_SH, I', J, Pf), 0, 0)) (fun kd pl => ∀ I', rFF I I' kd pl → pl ≤ 600 → P (.inl none, (am_SH, I', J, Pf), 0, 0)) →
    am_mth d (if m = 0 then 234 else if m = 1 then 235 else 238) [.ref 163] (am_SH, I, J, Pf) P := by
  intro F
  induction F with
  | zero => intro m o a d I L P hm hF; omega
  | succ F ih =>
    intro m o a d I L P hm hF ho hd h h5 h7 hL hLa kk
    have han := h.2.2.2.1
    have hm3 : m = 0 ∨ m = 1 ∨ m = 2 := by omega
    rcases hm3 with rfl | rfl | rfl
    · obtain ⟨d, rfl⟩ : ∃ e, d = e + 3 := ⟨d - 3, by omega⟩
      unfold mLw at kk
      have un := fun (I : am_I) (L : LW) (a : Nat) (Q : am_O → Prop) (ha : 3 * (n - a) + 2 ≤ F) gR g5 g7 gL gLa => ih 1 o a (d + 2) I L Q (by omega) (by omega) ho (by omega) gR g5 g7 gL gLa
      show am_mth (d + 3) 234 _ _ _
      refine am_mth_of rfl rfl (v234_0 hp ?_)
      refine un I L a _ (by omega) h h5 h7 hL hLa ?_
      cases hm : mLw b n F o 1 L a with
      | inl e =>
        rw [hm] at kk
        intro I' hF' hpl
        refine am_back (v234_4 hp ?_)
        rw [if_neg (hF'.bad (by omega))]
        exact kk I' hF' hpl
      | inr z =>
        rw [hm] at kk
        dsimp only [rb] at kk
        obtain ⟨k1, k2, k3⟩ := mLw_ok F o 1 L a z han hm
        intro I' hR' hs hL'
        refine am_back ?_
        refine rr_S (d := d) (a0 := a + 1) hp hn (fun L a z => mLw_ok F o 1 L a z) (fun I1 L1 a1 Q g1 g3 g4 g5 g6 g7 kk => un I1 L1 a1 Q (by omega) g3 g4 g5 g6 g7 kk) (n - z.2 + 1) I' z.1 z.2 _ (by omega) (by omega) hR' ?_ ?_ hL' (by omega) ?_
        · rw [hs _ _ (by omega) (by omega) (by omega)]; exact h5
        · rw [hs _ _ (by omega) (by omega) (by omega)]; exact h7
        · revert kk
          cases lwLoop b n (mLw b n F o 1) opS (n - z.2 + 1) z.1 z.2 with
          | inl e => exact fun kk I'' hF hpl => kk I'' (rFF.after hs.fr hF) hpl
          | inr y => exact fun kk I'' g1 g2 g3 => kk I'' g1 (hs.trans g2) g3
    · obtain ⟨d, rfl⟩ : ∃ e, d = e + 3 := ⟨d - 3, by omega⟩
      unfold mLw at kk
      have un := fun (I : am_I) (L : LW) (a : Nat) (Q : am_O → Prop) (ha : 3 * (n - a) + 1 ≤ F) gR g5 g7 gL gLa => ih 2 o a (d + 2) I L Q (by omega) (by omega) ho (by omega) gR g5 g7 gL gLa
      show am_mth (d + 3) 235 _ _ _
      refine am_mth_of rfl rfl (v235_0 hp ?_)
      refine un I L a _ (by omega) h h5 h7 hL hLa ?_
      cases hm : mLw b n F o 2 L a with
      | inl e =>
        rw [hm] at kk
        intro I' hF' hpl
        refine am_back (v235_4 hp ?_)
        rw [if_neg (hF'.bad (by omega))]
        exact kk I' hF' hpl
      | inr z =>
        rw [hm] at kk
        dsimp only [rb] at kk
        obtain ⟨k1, k2, k3⟩ := mLw_ok F o 2 L a z han hm
        intro I' hR' hs hL'
        refine am_back ?_
        refine rr_P (d := d) (a0 := a + 1) hp hn (fun L a z => mLw_ok F o 2 L a z) (fun I1 L1 a1 Q g1 g3 g4 g5 g6 g7 kk => un I1 L1 a1 Q (by omega) g3 g4 g5 g6 g7 kk) (n - z.2 + 1) I' z.1 z.2 _ (by omega) (by omega) hR' ?_ ?_ hL' (by omega) ?_
        · rw [hs _ _ (by omega) (by omega) (by omega)]; exact h5
        · rw [hs _ _ (by omega) (by omega) (by omega)]; exact h7
        · revert kk
          cases lwLoop b n (mLw b n F o 2) opP (n - z.2 + 1) z.1 z.2 with
          | inl e => exact fun kk I'' hF hpl => kk I'' (rFF.after hs.fr hF) hpl
          | inr y => exact fun kk I'' g1 g2 g3 => kk I'' g1 (hs.trans g2) g3
    · obtain ⟨d, rfl⟩ : ∃ e, d = e + 10 := ⟨d - 10, by omega⟩
      rw [mLw_unit] at kk
      show am_mth (d + 10) 238 _ _ _
      exact sr_lunit hp hn ho (fun L a z => mLw_ok F (o + 1) 0 L a z) (fun ho6 D I1 L1 a1 Q g0 g1 g3 g4 g5 g6 g7 kk => ih 0 (o + 1) a1 D I1 L1 Q (by omega) (by have := g3.2.2.2.1; omega) (by omega) (by omega) g3 g4 g5 g6 g7 kk) h h5 h7 hL hLa kk
/-- the reference's law -/
theorem sr_law (hp : am_PF Pf) {d : Nat} {P : am_O → Prop} {I : am_I} {tp : Nat} (hb : I 165 = b) (ht : I 163 2 = ni tp) (htp : tp ≤ 600) (hn : n ≤ tp) (hn150 : n ≤ 150)
    (kk : rm2 (mLaw b n) (fun L => ∀ I', I' 163 8 = -1 → I' 163 29 = ni L.1 → (∀ i, i < L.1 → I' 174 i = ni (L.2 i).1 ∧ I' 175 i = ni (L.2 i).2) → I' 163 10 = -1 → I' 163 0 = 0 → I' 163 2 = 0 → (∀ o k, ¬ rSc o k → ¬ (o = 163 ∧ (k = 0 ∨ k = 2 ∨ k = 3 ∨ k = 8 ∨ k = 10 ∨ k = 29)) → o ≠ 174 → o ≠ 175 → I' o k = I o k) → P (.inl (some (.int 1)), (am_SH, I', J, Pf), 0, 0))
      (fun kd pl => pl ≤ 600 → ∀ I', I' 163 8 = ni pl → I' 163 10 = -1 → I' 163 0 = 0 → I' 163 2 = 0 → (∀ o k, ¬ rSc o k → ¬ (o = 163 ∧ (k = 0 ∨ k = 2 ∨ k = 3 ∨ k = 8 ∨ k = 10)) → I' o k = I o k) → P (.inl (some (.int (ni kd - 10))), (am_SH, I', J, Pf), 0, 0))) :
    am_mth (d + 41) 239 [.ref 163, .int (ni n)] (am_SH, I, J, Pf) P := by
  refine am_mth_of rfl rfl (v239_0 hp ?_)
  rw [if_neg (ni_nonneg (by omega)), ht, if_neg (fun z => absurd ((ni_lt (by omega) (by omega)).mp z) (by omega)), if_neg (fun z => absurd ((glt 150 (by omega) (by omega)).mp z) (by omega))]
  obtain ⟨S, eS⟩ : ∃ S, S = am_u (am_u (am_u (am_u (am_u (am_u (am_u (am_u (am_u I 163 0 0) 163 2 0) 163 8 (-1)) 163 3 (ni n)) 163 4 0) 163 5 (-1)) 163 7 0) 163 10 (-1)) 163 28 0 := ⟨_, rfl⟩
  rw [← eS]
  have sF : ∀ o k, ¬ (o = 163 ∧ (k = 0 ∨ k = 2 ∨ k = 8 ∨ k = 3 ∨ k = 4 ∨ k = 5 ∨ k = 7 ∨ k = 10 ∨ k = 28)) → S o k = I o k := fun o k e => by
    rw [eS, am_u_nq (by omega), am_u_nq (by omega), am_u_nq (by omega), am_u_nq (by omega), am_u_nq (by omega), am_u_nq (by omega), am_u_nq (by omega), am_u_nq (by omega), am_u_nq (by omega)]
  have s0 : S 163 0 = 0 := by rw [eS]; simp [am_u]
  have s2 : S 163 2 = 0 := by rw [eS]; simp [am_u]
  have s8 : S 163 8 = -1 := by rw [eS]; simp [am_u]
  have s3 : S 163 3 = ni n := by rw [eS]; simp [am_u]
  have s4 : S 163 4 = ni 0 := by rw [eS]; simp [am_u]; rfl
  have s5 : S 163 5 = -1 := by rw [eS]; simp [am_u]
  have s7 : S 163 7 = ni 0 := by rw [eS]; simp [am_u]; rfl
  have s10 : S 163 10 = -1 := by rw [eS]; simp [am_u]
  have s28 : S 163 28 = ni 0 := by rw [eS]; simp [am_u]; rfl
  have sR : RM S b n 0 := ⟨by funext k; rw [sF _ _ (by omega), hb], s3, s4, Nat.zero_le _, by omega⟩
  have sL : rLw S (0, fun _ => (0, 0)) := ⟨s28, fun i hi => absurd hi (by show ¬ i < 0; omega)⟩
  have nR : ∀ {o k : Nat}, ¬ rSc o k → ¬ (o = 163 ∧ (k = 4 ∨ k = 5 ∨ k = 6 ∨ k = 7 ∨ k = 28)) ∧ o ≠ 172 ∧ o ≠ 173 := fun {o k} e => by
    unfold rSc at e
    omega
  -- the end, behind a fault
  have BAD : ∀ (I1 : am_I) (kd pl : Nat) (l2 : Option Value), pl ≤ 600 → rFF S I1 kd pl → (pl ≤ 600 → ∀ I', I' 163 8 = ni pl → I' 163 10 = -1 → I' 163 0 = 0 → I' 163 2 = 0 → (∀ o k, ¬ rSc o k → ¬ (o = 163 ∧ (k = 0 ∨ k = 2 ∨ k = 3 ∨ k = 8 ∨ k = 10)) → I' o k = I o k) → P (.inl (some (.int (ni kd - 10))), (am_SH, I', J, Pf), 0, 0)) → am_go none (d + 40) 239 (77, [some (.ref 163), some (.int (ni n)), l2], [], (am_SH, I1, J, Pf), 0, 0) P := by
    intro I1 kd pl l2 hpl hF kk
    refine v239_77 hp rfl ?_
    rw [if_neg (hF.bad (by omega)), hF.1, hF.2.1]
    have f : ∀ k, (k = 0 ∨ k = 2 ∨ k = 10) → I1 163 k = S 163 k := fun k hk => hF.2.2 _ _ (by unfold rSc; omega)
    refine kk hpl _ am_u_same ?_ ?_ ?_ (fun o k e1 e2 => ?_)
    · rw [am_u_nq (by omega), f _ (by omega)]; exact s10
    · rw [am_u_nq (by omega), f _ (by omega)]; exact s0
    · rw [am_u_nq (by omega), f _ (by omega)]; exact s2
    · have := nR e1
      rw [am_u_nq (by omega), hF.2.2 o k e1, sF o k (by omega)]
  unfold mLaw at kk
  have main := sr_lw (J := J) (b := b) hp hn150 (3 * n + 3) 0 0 0 (d + 40) S (0, fun _ => (0, 0)) (am_af none (d + 40) 239 51 [some (.ref 163), some (.int (ni n)), none] [.ref 163] [] (am_SH, S, J, Pf) 0 0 true P) (by omega) (by omega) (by omega) (by omega) sR s5 s7 sL (Nat.zero_le _)
  refine main ?_
  cases hm : mLw b n (3 * n + 3) 0 0 (0, fun _ => (0, 0)) 0 with
  | inl e =>
    rw [hm] at kk
    intro I' hF hpl
    refine am_back (v239_54 hp ?_)
    rw [if_neg (hF.bad (by omega))]
    exact BAD I' e.1 e.2 _ hpl hF kk
  | inr z =>
    rw [hm] at kk
    dsimp only [rb] at kk
    obtain ⟨k1, k2, k3⟩ := mLw_ok _ 0 0 _ 0 z (Nat.zero_le _) hm
    have z150 : z.1.1 ≤ 150 := by
      have k4 : z.1.1 + 0 ≤ 0 + z.2 := k3
      omega
    intro I1 hR1 hs1 hL1
    have p5 : I1 163 5 = -1 := by rw [hs1 _ _ (by omega) (by omega) (by omega)]; exact s5
    have hq := rsk_le (b := b) hR1.2.2.2.1
    refine am_back (v239_54 hp ?_)
    rw [if_pos p5]
    refine sr_more (d := d + 38) hp hR1 (fun hR2 => am_back (v239_65 hp ?_))
    by_cases ce : rsk b n z.2 = n
    · rw [if_pos ce] at kk
      rw [if_neg (show ¬ rsk b n z.2 < n by omega), if_pos rfl]
      refine v239_77 hp rfl ?_
      obtain ⟨I2, eI2⟩ : ∃ I2, I2 = am_u I1 163 4 (ni (rsk b n z.2)) := ⟨_, rfl⟩
      rw [← eI2]
      have hs2 : rLs S I2 := by rw [eI2]; exact hs1.trans rLs.at
      have hL2 : rLw I2 z.1 := by rw [eI2]; exact hL1.u (by omega)
      have r5 : I2 163 5 = -1 := by rw [hs2 _ _ (by omega) (by omega) (by omega)]; exact s5
      rw [if_pos r5, r5, hL2.1]
      refine sr_copies (d0 := d + 39) (x := 172) (y := 174) (L := 150) (m := 150) hp rfl rfl (by omega) (by omega) (by omega) z150 (fun I3 f1 f2 => am_back (v239_117 hp ?_))
      have c28 : I3 163 28 = ni z.1.1 := by rw [f2 _ _ (by omega), am_u_nq (by omega), am_u_nq (by omega)]; exact hL2.1
      rw [c28]
      refine sr_copies (d0 := d + 39) (x := 173) (y := 175) (L := 150) (m := 150) hp rfl rfl (by omega) (by omega) (by omega) z150 (fun I4 f3 f4 => am_back (v239_133 hp ?_))
      have f : ∀ o k, o ≠ 174 → o ≠ 175 → I4 o k = am_u (am_u I2 163 8 (-1)) 163 29 (ni z.1.1) o k := fun o k e1 e2 => by rw [f4 _ _ (by omega), f2 _ _ (by omega)]
      refine kk I4 ?_ ?_ (fun i hi => ⟨?_, ?_⟩) ?_ ?_ ?_ (fun o k e1 e2 e3 e4 => ?_)
      · rw [f _ _ (by omega) (by omega), am_u_nq (by omega), am_u_same]
      · rw [f _ _ (by omega) (by omega), am_u_same]
      · rw [f4 _ _ (by omega), f1 i hi, am_u_nq (by omega), am_u_nq (by omega)]; exact (hL2.2 i hi).1
      · rw [f3 i hi, f2 _ _ (by omega), am_u_nq (by omega), am_u_nq (by omega)]; exact (hL2.2 i hi).2
      · rw [f _ _ (by omega) (by omega), am_u_nq (by omega), am_u_nq (by omega), hs2 _ _ (by omega) (by omega) (by omega)]; exact s10
      · rw [f _ _ (by omega) (by omega), am_u_nq (by omega), am_u_nq (by omega), hs2 _ _ (by omega) (by omega) (by omega)]; exact s0
      · rw [f _ _ (by omega) (by omega), am_u_nq (by omega), am_u_nq (by omega), hs2 _ _ (by omega) (by omega) (by omega)]; exact s2
      · have := nR e1
        rw [f _ _ e3 e4, am_u_nq (by omega), am_u_nq (by omega), hs2 _ _ (by omega) (by omega) (by omega), sF o k (by omega)]
    · rw [if_neg ce] at kk
      rw [if_pos (show rsk b n z.2 < n by omega), if_neg (by decide), if_pos (u_5 (by omega) p5), am_u_same]
      exact BAD _ 1 (rsk b n z.2) _ (by omega) (rFF.mark (hs1.fr.u (by simp [rSc]))) kk
end LWV
