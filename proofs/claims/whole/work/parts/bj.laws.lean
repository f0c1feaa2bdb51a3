/-! A law is told -/
theorem INp.swl {Pf : am_R} {r la : Nat} (h : INp Pf r la) : INp (am_u (am_u Pf 0 4 (some (192 - la))) 0 5 (some la)) r (192 - la) := by
  obtain ⟨hp, hr, k2, k3, ⟨kF1, kF2⟩, hla, k4, k5⟩ := h
  refine ⟨(hp.set rfl).set rfl, hr, by rw [am_u_nq (by omega), am_u_nq (by omega)]; exact k2, by rw [am_u_nq (by omega), am_u_nq (by omega)]; exact k3, ⟨by rw [am_u_nq (by omega), am_u_nq (by omega)]; exact kF1, by rw [am_u_nq (by omega), am_u_nq (by omega)]; exact kF2⟩, by omega, by rw [am_u_nq (by omega)]; exact am_u_same, ?_⟩
  rw [am_u_same]
  congr 1
  omega
theorem pr_law {I : am_I} {J : am_J} {Pf : am_R} (h : INV I J Pf) (x : Int32) : PAIR cd1 142 239 [.int x] I J Pf := by
  obtain ⟨r, la, w, T, p, m, q, c, ms, L, h1, h2, h3, h4, h5, h6, h7, h8, h9⟩ := id h
  obtain ⟨hp, hr, k2, k3, kF, hla, k4, k5⟩ := id h1
  obtain ⟨c1, c2, c3, c4, c5, c6, c7, tp, c8, c9, c10⟩ := id h7
  intro D P hD kk
  obtain ⟨D', rfl⟩ : ∃ D', D = D' + 60 := ⟨D - 60, by omega⟩
  have BAD : ¬ inW x (min tp 150) → P (.inr 1, (am_SH, am_u I 0 19 (I 0 19 + 1), J, Pf), 1, 6) := by
    intro hb
    refine PAIR_bad (yr := 239) (as := [.int x]) (yc := 142) rfl h kk (fun J2 D2 P2 I1 hD2 f k2 => ?_)
    obtain ⟨D2', rfl⟩ : ∃ D', D2 = D' + 4 := ⟨D2 - 4, by omega⟩
    refine am_mth_of rfl rfl (v239_0 hp ?_)
    rw [f 163 2 (by omega), c10]
    by_cases e1 : x < 0
    · rw [if_pos e1]; exact k2
    rw [if_neg e1]
    by_cases e2 : ni tp < x
    · rw [if_pos e2]; exact k2
    rw [if_neg e2]
    by_cases e3 : (150 : Int32) < x
    · rw [if_pos e3]; exact k2
    obtain ⟨a, e, ha⟩ := inW_of (n := tp) (by omega) e1 e2
    obtain ⟨a', e', ha'⟩ := inW_of (n := 150) (by omega) e1 e3
    rw [e] at e'
    have := (ni_inj (by omega) (by omega)).mp e'
    exact absurd ⟨a, e, by omega⟩ hb
  have GOOD : ∀ n, x = ni n → n ≤ min tp 150 → am_go none (D' + 59) 142 (19, [some (.ref 0), some (.int (ni n)), none], [], (am_SH, I, J, Pf), 0, 0) P := by
    intro n hx hn
    subst hx
    have hnt : n ≤ tp := by omega
    have hn150 : n ≤ 150 := by omega
    refine v142_19 hp (sp_rd_start (d := D' + 58) hp (am_back (v142_27 hp ?_)))
    have hlb : 192 - la = 94 ∨ 192 - la = 98 := by omega
    have slb : am_SH[192 - la]? = some (.inl 2) := by rcases hla with rfl | rfl <;> rfl
    have plb : am_pf0 (192 - la) 4 = none := by rcases hla with rfl | rfl <;> rfl
    refine ⟨192 - la, k5, slb, ?_⟩
    obtain ⟨S, eS⟩ : ∃ S, S = am_u (am_u (am_u (am_u (am_u (am_u (am_u I 1 2 (ni n)) 1 1 0) 1 3 0) 1 4 0) 1 5 0) 1 6 (-1)) 0 15 (-1) := ⟨_, rfl⟩
    rw [← eS]
    have s1 : S 1 1 = 0 := by rw [eS]; simp [am_u]
    have s2 : S 1 2 = ni n := by rw [eS]; simp [am_u]
    have s3 : S 1 3 = ni 0 := by rw [eS]; simp [am_u]; rfl
    have s4 : S 1 4 = 0 := by rw [eS]; simp [am_u]
    have s5 : S 1 5 = 0 := by rw [eS]; simp [am_u]
    have s6 : S 1 6 = -1 := by rw [eS]; simp [am_u]
    have s15 : S 0 15 = -1 := by rw [eS]; exact am_u_same
    have sF : ∀ o k, o ≠ 1 → ¬ (o = 0 ∧ k = 15) → S o k = I o k := fun o k e1 e2 => by rw [eS, am_u_nq (by omega), am_u_nq (by omega), am_u_nq (by omega), am_u_nq (by omega), am_u_nq (by omega), am_u_nq (by omega), am_u_nq (by omega)]
    have sR : RD S n 0 := ⟨s2, s3, Nat.zero_le _, by omega⟩
    have sb : S 2 = I 2 := by funext k; exact sF _ _ (by omega) (by omega)
    have hP1 := h1.set (o := 192 - la) (f := 4) (t := 1) plb ⟨by omega, by omega⟩
    have hp1 := hP1.1
    refine sc_law (b := I 2) (n := n) (d := D' + 19) hp slb plb (by omega) (by omega) hn150 c7 sb sR s5 s4 ?_
    cases hm : mLaw (I 2) n with
    | inl f =>
      intro I1 qF qpl
      refine am_back (v142_43 hp1 rfl ?_)
      obtain ⟨q5, q6, qg⟩ := qF
      rw [if_pos rfl, q5]
      have f1 : ∀ o k, ¬ (o = 0 ∧ k = 15) → o ≠ 1 → ¬ (5 ≤ o ∧ o ≤ 7) → ¬ (192 - la ≤ o ∧ o ≤ 192 - la + 3) → o < 1000 → I1 o k = I o k := fun o k e1 e2 e3 e4 e5 => by rw [qg o k (by omega) e3 (by omega) e4, sF o k e2 e1]
      have g15 : I1 0 15 = -1 := by rw [qg _ _ (by omega) (by omega) (by omega) (by omega)]; exact s15
      have g11 : I1 1 1 = 0 := by rw [qg _ _ (by omega) (by omega) (by omega) (by omega)]; exact s1
      refine kk (.inr (ni f.1 - 10)) I1 J _ (fun E z => by cases z) (fun J2 hJ2 D2 P2 hD2 kk2 => ?_) (fun k => f1 _ _ (by omega) (by omega) (by omega) (by omega) (by omega)) rfl
      replace kk2 := fun I2 hi => kk2 I2 (INV.j202 hJ2 hi)
      obtain ⟨D2', rfl⟩ : ∃ D', D2 = D' + 41 := ⟨D2 - 41, by omega⟩
      refine sr_law (b := I 2) hp1 (by rw [c6]; funext k; exact f1 _ _ (by omega) (by omega) (by omega) (by omega) (by omega)) ((f1 _ _ (by omega) (by omega) (by omega) (by omega) (by omega)).trans c10) c8 hnt hn150 ?_
      rw [hm]
      intro _ I3 w8 w10 w0 w2 wF
      have gg : ∀ o k, ¬ (o = 0 ∧ k = 15) → o ≠ 1 → ¬ (5 ≤ o ∧ o ≤ 7) → ¬ (192 - la ≤ o ∧ o ≤ 192 - la + 3) → o < 1000 → ¬ rSc o k → ¬ (o = 163 ∧ (k = 0 ∨ k = 2 ∨ k = 3 ∨ k = 8 ∨ k = 10)) → I3 o k = I o k := fun o k e1 e2 e3 e4 e5 e6 e7 => by rw [wF o k e6 e7, f1 o k e1 e2 e3 e4 e5]
      refine kk2 I3 ⟨r, la, w, T, p, m, q, c, ms, L, hP1, h2, h3, h4.dep hr h2 (fun o k e => gg o k (by omega) (by omega) (by omega) (by omega) (by omega) (by unfold rSc; omega) (by omega)) (fun _ _ => rfl) rfl, h5.of (fun o y e => gg o y (by omega) (by omega) (by omega) (by omega) (by omega) (by unfold rSc; omega) (by omega)), h6.of (fun o k a b => gg o k (by omega) (by omega) (by omega) (by omega) (by omega) (by unfold rSc; omega) (by omega)), h7.tape (fun o k e => gg o k (by omega) (by omega) (by omega) (by omega) (by omega) (by unfold rSc; omega) (by omega)) ?_ ?_ ?_ ?_ w2, h8.of (fun o k e => gg o k (by omega) (by omega) (by omega) (by omega) (by omega) (by unfold rSc; omega) (by omega)), ?_⟩ w0
      · rw [w10, wF _ _ (by unfold rSc; omega) (by omega)]; exact g15
      · rw [gg _ _ (by omega) (by omega) (by omega) (by omega) (by omega) (by unfold rSc; omega) (by omega), gg _ _ (by omega) (by omega) (by omega) (by omega) (by omega) (by unfold rSc; omega) (by omega)]; exact c2
      · rw [w8, wF _ _ (by unfold rSc; omega) (by omega)]; exact q6
      · rw [wF _ _ (by unfold rSc; omega) (by omega)]; exact g11
      · obtain ⟨⟨a1, a2⟩, b1, b2, b3⟩ := h9
        have G : ∀ o k, la ≤ o → o ≤ la + 2 → I3 o k = I o k := fun o k e1 e2 => gg o k (by omega) (by omega) (by omega) (by omega) (by omega) (by unfold rSc; omega) (by omega)
        have G2 : ∀ o k, (o = 174 ∨ o = 175 ∨ (o = 163 ∧ k = 29)) → I3 o k = I o k := fun o k e => gg o k (by omega) (by omega) (by omega) (by omega) (by omega) (by unfold rSc; omega) (by omega)
        exact ⟨⟨by rw [G _ _ (by omega) (by omega)]; exact a1, fun i hi => by rw [G _ _ (by omega) (by omega), G _ _ (by omega) (by omega)]; exact a2 i hi⟩, b1, by rw [G2 _ _ (by omega)]; exact b2, fun i hi => by rw [G2 _ _ (by omega), G2 _ _ (by omega)]; exact b3 i hi⟩
    | inr L' =>
      obtain ⟨lw1, lw2⟩ := mLaw_wf hm
      have lw3 := mLaw_sm hm
      have ln : L'.1 ≠ 0 := by
        intro z
        have := lw1.2
        rw [z] at this
        exact absurd this (by show ¬ (0 = 1); omega)
      have lco : lcO L' = L' := by unfold lcO; rw [if_neg ln]
      intro I1 qs qL
      refine am_back (v142_43 hp1 rfl ?_)
      have sla : am_SH[la]? = some (.inl 2) := by rcases hla with rfl | rfl <;> rfl
      rw [if_neg (by decide)]
      have u4 : am_u Pf (192 - la) 4 (some 1) 0 4 = some la := by rw [am_u_nq (by omega)]; exact k4
      have u5 : am_u Pf (192 - la) 4 (some 1) 0 5 = some (192 - la) := by rw [am_u_nq (by omega)]; exact k5
      refine ⟨la, u4, sla, 192 - la, u5, slb, ?_⟩
      have hP2 := hP1.swl
      have f1 : ∀ o k, ¬ (o = 0 ∧ k = 15) → o ≠ 1 → ¬ (192 - la ≤ o ∧ o ≤ 192 - la + 3) → I1 o k = I o k := fun o k e1 e2 e4 => by rw [qs o k (by omega) e4, sF o k e2 e1]
      have g15 : I1 0 15 = -1 := by rw [qs _ _ (by omega) (by omega)]; exact s15
      have g11 : I1 1 1 = 0 := by rw [qs _ _ (by omega) (by omega)]; exact s1
      have g16 : I1 1 6 = -1 := by rw [qs _ _ (by omega) (by omega)]; exact s6
      refine kk (.inr 1) I1 J _ (fun E z => by cases z) (fun J2 hJ2 D2 P2 hD2 kk2 => ?_) (fun k => f1 _ _ (by omega) (by omega) (by omega)) rfl
      replace kk2 := fun I2 hi => kk2 I2 (INV.j202 hJ2 hi)
      obtain ⟨D2', rfl⟩ : ∃ D', D2 = D' + 41 := ⟨D2 - 41, by omega⟩
      refine sr_law (b := I 2) hP2.1 (by rw [c6]; funext k; exact f1 _ _ (by omega) (by omega) (by omega)) ((f1 _ _ (by omega) (by omega) (by omega)).trans c10) c8 hnt hn150 ?_
      rw [hm]
      intro I3 w8 w29 wE w10 w0 w2 wF
      have gg : ∀ o k, ¬ (o = 0 ∧ k = 15) → o ≠ 1 → ¬ (192 - la ≤ o ∧ o ≤ 192 - la + 3) → ¬ rSc o k → ¬ (o = 163 ∧ (k = 0 ∨ k = 2 ∨ k = 3 ∨ k = 8 ∨ k = 10 ∨ k = 29)) → o ≠ 174 → o ≠ 175 → I3 o k = I o k := fun o k e1 e2 e4 e6 e7 e8 e9 => by rw [wF o k e6 e7 e8 e9, f1 o k e1 e2 e4]
      refine kk2 I3 ⟨r, 192 - la, w, T, p, m, q, c, ms, L', hP2, h2, h3, h4.dep hr h2 (fun o k e => gg o k (by omega) (by omega) (by omega) (by unfold rSc; omega) (by omega) (by omega) (by omega)) (fun _ _ => rfl) rfl, h5.of (fun o y e => gg o y (by omega) (by omega) (by omega) (by unfold rSc; omega) (by omega) (by omega) (by omega)), h6.of (fun o k a b => gg o k (by omega) (by omega) (by omega) (by unfold rSc; omega) (by omega) (by omega) (by omega)), h7.tape (fun o k e => gg o k (by omega) (by omega) (by omega) (by unfold rSc; omega) (by omega) (by omega) (by omega)) ?_ ?_ ?_ ?_ w2, h8.of (fun o k e => gg o k (by omega) (by omega) (by omega) (by unfold rSc; omega) (by omega) (by omega) (by omega)), ?_⟩ w0
      · rw [w10, wF _ _ (by unfold rSc; omega) (by omega) (by omega) (by omega)]; exact g15
      · rw [gg _ _ (by omega) (by omega) (by omega) (by unfold rSc; omega) (by omega) (by omega) (by omega), gg _ _ (by omega) (by omega) (by omega) (by unfold rSc; omega) (by omega) (by omega) (by omega)]; exact c2
      · rw [w8, wF _ _ (by unfold rSc; omega) (by omega) (by omega) (by omega)]; exact g16
      · rw [wF _ _ (by unfold rSc; omega) (by omega) (by omega) (by omega)]; exact g11
      · obtain ⟨a1, a2⟩ := qL
        have G : ∀ o k, 192 - la ≤ o → o ≤ 192 - la + 2 → I3 o k = I1 o k := fun o k e1 e2 => wF o k (by unfold rSc; omega) (by omega) (by omega) (by omega)
        refine ⟨?_, Or.inr ⟨lw1, by omega, lw3⟩, w29, wE⟩
        rw [lco]
        exact ⟨by rw [G _ _ (by omega) (by omega)]; exact a1, fun i hi => by rw [G _ _ (by omega) (by omega), G _ _ (by omega) (by omega)]; exact a2 i hi⟩
  refine am_mth_of rfl rfl (v142_0 hp ?_)
  rw [c9]
  by_cases ct : 150 < tp
  · rw [if_pos ((glt 150 (by omega) (by omega)).mpr ct), show (150 : Int32) = ni 150 from rfl]
    have e : min tp 150 = 150 := by omega
    rw [e] at BAD GOOD
    exact sc_in (d := D' + 53) hp (by omega) (fun a ha hab => am_back (by rw [ha]; exact GOOD a ha hab)) (fun hb => am_thru rfl (BAD hb))
  · rw [if_neg (fun z => ct ((glt 150 (by omega) (by omega)).mp z))]
    have e : min tp 150 = tp := by omega
    rw [e] at BAD GOOD
    exact sc_in (d := D' + 53) hp (by omega) (fun a ha hab => am_back (by rw [ha]; exact GOOD a ha hab)) (fun hb => am_thru rfl (BAD hb))
