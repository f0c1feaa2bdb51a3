/-! WORK, done by both -/
theorem INp.set {Pf : am_R} {r la o f t : Nat} (h : INp Pf r la) (h0 : am_pf0 o f = none) (hn : ¬ (o = 0 ∧ (2 ≤ f ∧ f ≤ 5)) ∧ ¬ (o = 112 ∧ f ≤ 1)) : INp (am_u Pf o f (some t)) r la := by
  obtain ⟨hp, hr, k2, k3, ⟨kF1, kF2⟩, hla, k4, k5⟩ := h
  exact ⟨hp.set h0, hr, by rw [am_u_nq (by omega)]; exact k2, by rw [am_u_nq (by omega)]; exact k3, ⟨by rw [am_u_nq (by omega)]; exact kF1, by rw [am_u_nq (by omega)]; exact kF2⟩, hla, by rw [am_u_nq (by omega)]; exact k4, by rw [am_u_nq (by omega)]; exact k5⟩
/-- a refusal of an argument, by both -/
theorem PAIR_bad {yc yr : Nat} {as : List Value} {I : am_I} {J : am_J} {Pf : am_R} (hk : okE yc 1 = true) (h : INV I J Pf) {P : am_O → Prop} (kk : ∀ (v : Sum Nat Int32) (I1 : am_I) (J1 : am_J) (Pf1 : am_R), (∀ E, v = .inl E → okE yc E = true) → (∀ (J2 : am_J), (∀ o, o ≠ 202 → J2 o = J1 o) → ∀ (D2 : Nat) (P2 : am_O → Prop), 400 ≤ D2 → (∀ I2, INV I2 J2 Pf1 → I2 163 0 = oCd cd1 v → P2 (.inl (some (.int (oAn v))), (am_SH, I2, J2, Pf1), 0, 0)) → am_mth D2 yr (.ref 163 :: as) (am_SH, I1, J2, Pf1) P2) → (∀ k, I1 202 k = I 202 k) → J1 202 = J 202 → P (oOut v I1 J1 Pf1))
    (hr : ∀ (J2 : am_J) (D2 : Nat) (P2 : am_O → Prop) (I1 : am_I), 400 ≤ D2 → (∀ o k, o ≠ 0 → I1 o k = I o k) → P2 (.inl (some (.int 0)), (am_SH, rTh I1 1 1, J2, Pf), 0, 0) → am_mth D2 yr (.ref 163 :: as) (am_SH, I1, J2, Pf) P2) : P (.inr 1, (am_SH, am_u I 0 19 (I 0 19 + 1), J, Pf), 1, 6) := by
  obtain ⟨r, la, w, T, p, m, q, c, ms, L, h1, h2, h3, h4, h5, h6, h7, h8, h9⟩ := id h
  have hf : ∀ o k, ¬ (o = 0 ∧ k = 19) → (am_u I 0 19 (I 0 19 + 1)) o k = I o k := fun o k e => am_u_nq e
  have hs : (am_u I 0 19 (I 0 19 + 1)) 0 19 = I 0 19 + 1 := am_u_same
  generalize am_u I 0 19 (I 0 19 + 1) = I1 at hf hs ⊢
  refine kk (.inl 1) I1 J Pf (fun E z => by cases z; exact hk) (fun J2 hJ2 D2 P2 hD2 k2 => hr J2 D2 P2 I1 hD2 (fun o k e => hf o k (by omega)) ?_) (fun k => hf _ _ (by omega)) rfl
  replace k2 := fun I2 hi => k2 I2 (INV.j202 hJ2 hi)
  have g0 : rTh I1 1 1 163 0 = 1 := by unfold rTh; rw [am_u_nq (by omega)]; exact am_u_same
  have gE : rTh I1 1 1 164 1 = I1 164 1 + 1 := am_u_same
  have g : ∀ o k, ¬ (o = 163 ∧ k = 0) → ¬ (o = 164 ∧ k = 1) → rTh I1 1 1 o k = I1 o k := fun o k e1 e2 => by
    unfold rTh
    rw [am_u_nq (by omega), am_u_nq (by omega), am_u_nq (by omega)]
  generalize rTh I1 1 1 = I2 at g0 gE g ⊢
  have gg : ∀ o k, ¬ (o = 163 ∧ k = 0) → ¬ (o = 164 ∧ k = 1) → ¬ (o = 0 ∧ k = 19) → I2 o k = I o k := fun o k e1 e2 e3 => by rw [g o k e1 e2, hf o k e3]
  refine k2 I2 ⟨r, la, w, T, p, m, q, c, ms, L, h1, h2, h3, h4.same h1.2.1 h2 (fun o k e1 e2 e3 => gg o k (by omega) (by omega) (by omega)), h5.of (fun o y ho => gg o y (by omega) (by omega) (by omega)), h6.of (fun o k e1 e2 => gg o k (by omega) (by omega) (by omega)), ?_, h8.of (fun o k e => gg o k (by omega) (by omega) (by omega)), h9.of h1.2.2.2.2.2.1 (fun o k e => gg o k (by omega) (by omega) (by omega))⟩ g0
  obtain ⟨c1, c2, c3, c4, c5, c6, c7, tp, c8, c9, c10⟩ := h7
  refine ⟨by rw [gg _ _ (by omega) (by omega) (by omega), gg _ _ (by omega) (by omega) (by omega)]; exact c1, by rw [gg _ _ (by omega) (by omega) (by omega), gg _ _ (by omega) (by omega) (by omega)]; exact c2, by rw [gg _ _ (by omega) (by omega) (by omega), gg _ _ (by omega) (by omega) (by omega)]; exact c3, by rw [gg _ _ (by omega) (by omega) (by omega), gg _ _ (by omega) (by omega) (by omega)]; exact c4, by rw [g _ _ (by omega) (by omega), hs, gE, hf _ _ (by omega), c5], ?_, fun k => by rw [gg _ _ (by omega) (by omega) (by omega)]; exact c7 k, tp, c8, by rw [gg _ _ (by omega) (by omega) (by omega)]; exact c9, by rw [gg _ _ (by omega) (by omega) (by omega)]; exact c10⟩
  funext k
  rw [gg _ _ (by omega) (by omega) (by omega), gg _ _ (by omega) (by omega) (by omega), c6]
theorem sc_perform {Pf : am_R} (hp : am_PF Pf) {P : am_O → Prop} {I : am_I} {J : am_J} {T : TX} {L : List (ST 6)} {cnt D : Nat} (hD : 20 ≤ D) (hs : ∀ y, y ∈ L → stOK 6 y) (hla : layL (cLa (I 103) (I 104) (I 105) (I 106) 6) (csz 6) 0 L) (h4 : I 102 4 = ni cnt) (hc : szL (csz 6) L = cnt) (hcnt : cnt ≤ 50) (hT : cTx 135 I T) (hTo : txOK T) (kk : ∀ I', pM I' (exL (exS 6) L (T, 0, 0, 0)) → pF I I' → P (.inl none, (am_SH, I', J, Pf), 0, 0)) : am_mth D 106 [.ref 102, .ref 135] (am_SH, I, J, Pf) P := by
  obtain ⟨D', rfl⟩ : ∃ D', D = D' + 6 := ⟨D - 6, by omega⟩
  have hx0 : wxOK (T, 0, 0, 0) := ⟨hTo, by show 0 ≤ 200; omega, Nat.le_refl _, Nat.le_refl _⟩
  have hxok := exL_ok (f := exS 6) L (T, 0, 0, 0) (fun y x hy hx => exS_ok 6 y x (hs y hy) hx) hx0
  refine am_mth_of rfl rfl (v106_0 hp rfl ?_)
  have f : ∀ o k, ¬ (o = 102 ∧ (k = 8 ∨ k = 9)) → (am_u (am_u I 102 8 0) 102 9 0) o k = I o k := fun o k e => by rw [am_u_nq (by omega), am_u_nq (by omega)]
  have fr : ∀ o, o ≠ 102 → (am_u (am_u I 102 8 0) 102 9 0) o = I o := fun o e => by funext k; exact f o k (by omega)
  have hM : pM (am_u (am_u I 102 8 0) 102 9 0) (T, 0, 0, 0) := ⟨⟨by rw [f _ _ (by omega)]; exact hT.1, hT.2.1, fun i hi => by rw [f _ _ (by omega)]; exact hT.2.2 i hi⟩, by rw [am_u_nq (by omega)]; exact am_u_same, am_u_same⟩
  have hF : pF I (am_u (am_u I 102 8 0) 102 9 0) := fun o k e1 e2 e3 e4 => f o k e3
  have hrw : rwK (am_u (am_u I 102 8 0) 102 9 0) (I 103) (I 104) (I 105) (I 106) cnt := ⟨fr _ (by omega), fr _ (by omega), fr _ (by omega), fr _ (by omega), by rw [f _ _ (by omega)]; exact h4⟩
  rw [show (0 : Int32) = ni 0 from rfl] at hM hF hrw ⊢
  refine cPF_all hp (by omega) 6 P J L 0 0 0 0 (T, 0, 0, 0) _ hs hla hrw (by omega) (by omega) hx0 (Nat.zero_le _) hM (fun I' a b _ => kk I' a (hF.trans b)) (fun I' t a b _ e => ?_)
  have h200 := hxok.1.2.1
  have hI' := hrw.of b
  refine v106_20 hp rfl ?_
  rw [if_neg (fun z => absurd ((gle 1000 (by omega) (by omega)).mp z) (by omega)), if_neg (ni_ge0 (by omega)), hI'.2.2.2.2, if_pos ((ni_le (by omega) (by omega)).mpr (by omega))]
  exact kk I' a (hF.trans b)
theorem cQ.dep {r : Nat} (hr : r = 16 ∨ r = 55) {I I' : am_I} {J J' : am_J} {w : Nat → Int32} {T : TX} (hG : WG w) (h : cQ r I J w T) (f : ∀ o k, ((r ≤ o ∧ o < r + 39) ∨ o = 119 ∨ (135 ≤ o ∧ o ≤ 139) ∨ o = 145 ∨ o = 146 ∨ o = 149 ∨ (o = 0 ∧ k = 12)) → I' o k = I o k) (g : ∀ o, o < 112 → J' o = J o) (gJ : J' 118 = J 118) : cQ r I' J' w T := by
  obtain ⟨h1, h2, h3, h4, h5⟩ := h
  refine ⟨h1.mid hr hG (fun o k a b => f o k (by omega)) g, ⟨by rw [f _ _ (by omega)]; exact h2.1, h2.2.1, fun i hi => by rw [f _ _ (by omega)]; exact h2.2.2 i hi⟩, h3, h4.of (fun k => f _ _ (by omega)) gJ, ?_⟩
  rw [f 0 12 (by omega)]
  rcases h5 with z | ⟨g1, g2, g3⟩
  · exact Or.inl z
  · refine Or.inr ⟨g1.of (fun o y a b => f o y (by omega)), ?_, g3.of (fun y _ _ => f _ _ (by omega)) (fun y => f _ _ (by omega))⟩
    rcases g2 with z | z
    · exact Or.inl (by rw [f _ _ (by omega)]; exact z)
    · exact Or.inr (z.of (f _ _ (by omega)) (fun y => f _ _ (by omega)))
theorem INc.tape {I I' : am_I} (h : INc I) (f : ∀ o k, ((o = 0 ∧ (k = 18 ∨ k = 19)) ∨ o = 2 ∨ o = 164 ∨ o = 165) → I' o k = I o k) (e15 : I' 0 15 = I' 163 10) (e16 : I' 0 16 = I' 163 35) (e6 : I' 1 6 = I' 163 8) (t1 : I' 1 1 = 0) (t2 : I' 163 2 = 0) : INc I' := by
  obtain ⟨c1, c2, c3, c4, c5, c6, c7, tp, c8, c9, c10⟩ := h
  refine ⟨e15, e16, e6, by rw [f _ _ (by omega), f _ _ (by omega)]; exact c4, by rw [f _ _ (by omega), f _ _ (by omega)]; exact c5, ?_, fun k => by rw [f _ _ (by omega)]; exact c7 k, 0, Nat.zero_le _, t1, t2⟩
  funext k
  rw [f _ _ (by omega), f _ _ (by omega), c6]
theorem pr_work {I : am_I} {J : am_J} {Pf : am_R} (h : INV I J Pf) (x : Int32) : PAIR cd1 143 247 [.int x] I J Pf := by
  obtain ⟨r, la, w, T, p, m, q, c, ms, L, h1, h2, h3, h4, h5, h6, h7, h8, h9⟩ := id h
  obtain ⟨hp, hr, k2, k3, kF, hla, k4, k5⟩ := id h1
  obtain ⟨⟨m16, hpo, hsC, hsR⟩, hI⟩ := id h8
  obtain ⟨c1, c2, c3, c4, c5, c6, c7, tp, c8, c9, c10⟩ := id h7
  have hT24 := h4.2.1.2.1
  intro D P hD kk
  obtain ⟨D', rfl⟩ : ∃ D', D = D' + 10 := ⟨D - 10, by omega⟩
  -- an argument that is refused
  have BAD : ¬ inW x (min tp 150) → P (.inr 1, (am_SH, am_u I 0 19 (I 0 19 + 1), J, Pf), 1, 6) := by
    intro hb
    refine PAIR_bad (yr := 247) (as := [.int x]) (yc := 143) rfl h kk (fun J2 D2 P2 I1 hD2 f k2 => ?_)
    obtain ⟨D2', rfl⟩ : ∃ D', D2 = D' + 4 := ⟨D2 - 4, by omega⟩
    refine am_mth_of rfl rfl (v247_0 hp ?_)
    rw [f 163 2 (by omega), c10]
    by_cases e1 : x < 0
    · rw [if_pos e1]; exact k2
    rw [if_neg e1]
    by_cases e2 : ni tp < x
    · rw [if_pos e2]; exact k2
    rw [if_neg e2]
    by_cases e3 : (150 : Int32) < x
    · rw [if_pos e3]; exact k2
    obtain ⟨a, e, ha⟩ := inW_of (n := tp) (by omega) e1 e2
    obtain ⟨a', e', ha'⟩ := inW_of (n := 150) (by omega) e1 e3
    rw [e] at e'
    have := (ni_inj (by omega) (by omega)).mp e'
    exact absurd ⟨a, e, by omega⟩ hb
  -- an argument that is none of these
  have GOOD : ∀ n, x = ni n → n ≤ min tp 150 → am_go none (D' + 9) 143 (19, [some (.ref 0), some (.int (ni n)), none], [], (am_SH, I, J, Pf), 0, 0) P := by
    intro n hx hn
    subst hx
    have hnt : n ≤ tp := by omega
    have hn150 : n ≤ 150 := by omega
    refine v143_19 hp ?_
    rw [hsC.1]
    by_cases c16 : m < 16
    · rw [if_pos ((llt 16 (by omega) (by omega)).mpr c16)]
      refine sp_rd_start (d := D' + 8) hp (am_back (v143_53 hp ?_))
      rw [if_pos rfl]
      obtain ⟨S, eS⟩ : ∃ S, S = am_u (am_u (am_u (am_u (am_u (am_u (am_u I 1 2 (ni n)) 1 1 0) 1 3 0) 1 4 0) 1 5 0) 1 6 (-1)) 0 15 (-1) := ⟨_, rfl⟩
      rw [← eS]
      have s1 : S 1 1 = 0 := by rw [eS]; simp [am_u]
      have s2 : S 1 2 = ni n := by rw [eS]; simp [am_u]
      have s3 : S 1 3 = ni 0 := by rw [eS]; simp [am_u]; rfl
      have s4 : S 1 4 = 0 := by rw [eS]; simp [am_u]
      have s5 : S 1 5 = 0 := by rw [eS]; simp [am_u]
      have s6 : S 1 6 = -1 := by rw [eS]; simp [am_u]
      have s15 : S 0 15 = -1 := by rw [eS]; exact am_u_same
      have sF : ∀ o k, o ≠ 1 → ¬ (o = 0 ∧ k = 15) → S o k = I o k := fun o k e1 e2 => by rw [eS, am_u_nq (by omega), am_u_nq (by omega), am_u_nq (by omega), am_u_nq (by omega), am_u_nq (by omega), am_u_nq (by omega), am_u_nq (by omega)]
      have sR : RD S n 0 := ⟨s2, s3, Nat.zero_le _, by omega⟩
      have sb : S 2 = I 2 := by funext k; exact sF _ _ (by omega) (by omega)
      have hP1 := h1.set (o := 102) (f := 6) (t := 1) rfl (by omega)
      have hp1 := hP1.1
      refine sc_work (b := I 2) hp hn150 c7 (by omega) sb sR s5 s4 ?_
      have R34 : ∀ I1 : am_I, (∀ o k, 163 ≤ o → o < 1000 → I1 o k = I o k) → I1 165 = I 2 ∧ I1 163 2 = ni tp ∧ I1 163 34 = ni m ∧ rTx 180 I1 T := fun I1 f => ⟨by rw [c6]; funext k; exact f _ _ (by omega) (by omega), by rw [f _ _ (by omega) (by omega)]; exact c10, by rw [f _ _ (by omega) (by omega)]; exact hsR.1, by rw [f _ _ (by omega) (by omega)]; exact h5.2.2.1.1, h5.2.2.1.2.1, fun i hi => by rw [f _ _ (by omega) (by omega)]; exact h5.2.2.1.2.2 i hi⟩
      cases hm : mWk (I 2) n with
      | inl f =>
        intro I1 q1 q2 q3 q4 q5
        refine am_back (v143_76 hp1 ?_)
        rw [if_pos rfl, q1, q3]
        have f1 : ∀ o k, ¬ (o = 0 ∧ k = 15) → o ≠ 1 → ¬ (5 ≤ o ∧ o ≤ 7) → ¬ (102 ≤ o ∧ o ≤ 106) → o < 1000 → (am_u I1 0 15 (ni f.2.2)) o k = I o k := fun o k e1 e2 e3 e4 e5 => by rw [am_u_nq e1, q4 o k (by omega) e3 (by omega) (by omega) (by omega), sF o k e2 e1]
        have f15 : (am_u I1 0 15 (ni f.2.2)) 0 15 = ni f.2.2 := am_u_same
        have f16' : (am_u I1 0 15 (ni f.2.2)) 1 6 = ni f.2.1 := by rw [am_u_nq (by omega)]; exact q2
        have f11 : (am_u I1 0 15 (ni f.2.2)) 1 1 = 0 := by rw [am_u_nq (by omega), q4 _ _ (by omega) (by omega) (by omega) (by omega) (by omega)]; exact s1
        generalize am_u I1 0 15 (ni f.2.2) = I2 at f1 f15 f16' f11 ⊢
        refine kk (.inr (ni f.1 - 10)) I2 J _ (fun E z => by cases z) (fun J2 hJ2 D2 P2 hD2 kk2 => ?_) (fun k => f1 _ _ (by omega) (by omega) (by omega) (by omega) (by omega)) rfl
        replace kk2 := fun I2 hi => kk2 I2 (INV.j202 hJ2 hi)
        obtain ⟨r1, r2, r3, r4⟩ := R34 I2 (fun o k a b => f1 o k (by omega) (by omega) (by omega) (by omega) b)
        refine sr_workc hp1 r1 r2 c8 hnt hn150 r3 (by omega) r4 h5.2.2.2.1 (by omega) (fun z => absurd z (by omega)) (fun _ => ?_)
        rw [hm]
        intro I3 hW _
        obtain ⟨w8, w10, w0, w2, wF⟩ := hW
        have gg : ∀ o k, ¬ (o = 0 ∧ k = 15) → o ≠ 1 → ¬ (5 ≤ o ∧ o ≤ 7) → ¬ (102 ≤ o ∧ o ≤ 106) → o < 1000 → ¬ rSc o k → ¬ (o = 163 ∧ (k = 0 ∨ k = 2 ∨ k = 3 ∨ k = 8 ∨ k = 10)) → I3 o k = I o k := fun o k e1 e2 e3 e4 e5 e6 e7 => by rw [wF o k e6 e7, f1 o k e1 e2 e3 e4 e5]
        refine kk2 I3 ⟨r, la, w, T, p, m, q, c, ms, L, hP1, h2, h3, h4.dep hr h2 (fun o k e => gg o k (by omega) (by omega) (by omega) (by omega) (by omega) (by unfold rSc; omega) (by omega)) (fun _ _ => rfl) rfl, h5.of (fun o y e => gg o y (by omega) (by omega) (by omega) (by omega) (by omega) (by unfold rSc; omega) (by omega)), h6.of (fun o k a b => gg o k (by omega) (by omega) (by omega) (by omega) (by omega) (by unfold rSc; omega) (by omega)), h7.tape (fun o k e => gg o k (by omega) (by omega) (by omega) (by omega) (by omega) (by unfold rSc; omega) (by omega)) ?_ ?_ ?_ ?_ w2, h8.of (fun o k e => gg o k (by omega) (by omega) (by omega) (by omega) (by omega) (by unfold rSc; omega) (by omega)), h9.of hla (fun o k e => gg o k (by omega) (by omega) (by omega) (by omega) (by omega) (by unfold rSc; omega) (by omega))⟩ w0
        · rw [w10, wF _ _ (by unfold rSc; omega) (by omega)]; exact f15
        · rw [gg _ _ (by omega) (by omega) (by omega) (by omega) (by omega) (by unfold rSc; omega) (by omega), gg _ _ (by omega) (by omega) (by omega) (by omega) (by omega) (by unfold rSc; omega) (by omega)]; exact c2
        · rw [w8, wF _ _ (by unfold rSc; omega) (by omega)]; exact f16'
        · rw [wF _ _ (by unfold rSc; omega) (by omega)]; exact f11
      | inr Ls =>
        intro I1 q5 q6 qF qc qlay qok q50
        refine am_back (v143_76 hp1 ?_)
        rw [if_neg (by decide)]
        have g1 : ∀ o k, ¬ (o = 0 ∧ k = 15) → o ≠ 1 → ¬ (102 ≤ o ∧ o ≤ 106) → I1 o k = I o k := fun o k e1 e2 e3 => by rw [qF o k (by omega) (by omega) (by omega) (by omega), sF o k e2 e1]
        have g11 : I1 1 1 = 0 := by rw [qF _ _ (by omega) (by omega) (by omega) (by omega)]; exact s1
        have g16 : I1 1 6 = -1 := q6.trans s6
        have g15 : I1 0 15 = -1 := by rw [qF _ _ (by omega) (by omega) (by omega) (by omega)]; exact s15
        have gT : cTx 135 I1 T := ⟨by rw [g1 _ _ (by omega) (by omega) (by omega)]; exact h4.2.1.1, hT24, fun i hi => by rw [g1 _ _ (by omega) (by omega) (by omega)]; exact h4.2.1.2.2 i hi⟩
        have gS : shC 108 I1 p m := hsC.of (fun o k a b => g1 o k (by omega) (by omega) (by omega))
        refine sc_shkeep (d := D' + 8) hp1 shObj_8 (by decide) gS (by omega) hpo gT (fun I2 a1 a2 => am_back (v143_112 hp1 ?_))
        have gT2 : cTx 135 I2 T := ⟨by rw [a2 _ _ (by omega)]; exact gT.1, hT24, fun i hi => by rw [a2 _ _ (by omega)]; exact gT.2.2 i hi⟩
        have fe : ∀ o, ¬ (108 ≤ o ∧ o ≤ 110) → I2 o = I1 o := fun o e => by funext k; exact a2 o k e
        refine sc_perform (L := Ls) (cnt := szL (csz 6) Ls) hp1 (by omega) qok (by rw [fe _ (by omega), fe _ (by omega), fe _ (by omega), fe _ (by omega)]; exact qlay) (by rw [a2 _ _ (by omega)]; exact qc) rfl q50 gT2 h4.2.2.1 (fun I3 b1 b2 => am_back (v143_123 hp1 ?_))
        have hxok := exL_ok (f := exS 6) Ls (T, 0, 0, 0) (fun y x hy hx => exS_ok 6 y x (qok y hy) hx) ⟨h4.2.2.1, by show 0 ≤ 200; omega, Nat.le_refl _, Nat.le_refl _⟩
        generalize hx : exL (exS 6) Ls (T, 0, 0, 0) = xx at b1 hxok
        rw [b1.2.1, b1.2.2]
        have f3 : ∀ o k, ¬ (o = 135 ∧ k = 1) → o ≠ 136 → ¬ (102 ≤ o ∧ o ≤ 110) → o ≠ 1 → ¬ (o = 0 ∧ (k = 12 ∨ k = 15 ∨ k = 16)) → (am_u (am_u I3 0 16 (ni xx.2.2.2)) 0 12 0) o k = I o k := fun o k e1 e2 e3 e4 e5 => by rw [am_u_nq (by omega), am_u_nq (by omega), b2 o k e1 e2 (by omega) (by omega), a2 o k (by omega), g1 o k (by omega) e4 (by omega)]
        have f3' : ∀ o k, ¬ (o = 0 ∧ (k = 12 ∨ k = 16)) → (am_u (am_u I3 0 16 (ni xx.2.2.2)) 0 12 0) o k = I3 o k := fun o k e => by rw [am_u_nq (by omega), am_u_nq (by omega)]
        have z16 : (am_u (am_u I3 0 16 (ni xx.2.2.2)) 0 12 0) 0 16 = ni xx.2.2.2 := by rw [am_u_nq (by omega)]; exact am_u_same
        have z12 : (am_u (am_u I3 0 16 (ni xx.2.2.2)) 0 12 0) 0 12 = 0 := am_u_same
        generalize am_u (am_u I3 0 16 (ni xx.2.2.2)) 0 12 0 = I4 at f3 f3' z16 z12 ⊢
        have z15 : I4 0 15 = -1 := by rw [f3' _ _ (by omega), b2 _ _ (by omega) (by omega) (by omega) (by omega), a2 _ _ (by omega)]; exact g15
        have z1 : ∀ k, I4 1 k = I1 1 k := fun k => by rw [f3' _ _ (by omega), b2 _ _ (by omega) (by omega) (by omega) (by omega), a2 _ _ (by omega)]
        have zT : cTx 135 I4 xx.1 := ⟨by rw [f3' _ _ (by omega)]; exact b1.1.1, b1.1.2.1, fun i hi => by rw [f3' _ _ (by omega)]; exact b1.1.2.2 i hi⟩
        have zS : shC 108 I4 (fup p m T) (m + 1) := a1.of (fun o k e1 e2 => by rw [f3' _ _ (by omega), b2 _ _ (by omega) (by omega) (by omega) (by omega)])
        refine kk (.inr (ni xx.2.2.1)) I4 J _ (fun E z => by cases z) (fun J2 hJ2 D2 P2 hD2 kk2 => ?_) (fun k => f3 _ _ (by omega) (by omega) (by omega) (by omega) (by omega)) rfl
        replace kk2 := fun I2 hi => kk2 I2 (INV.j202 hJ2 hi)
        obtain ⟨r1, r2, r3, r4⟩ := R34 I4 (fun o k a b => f3 o k (by omega) (by omega) (by omega) (by omega) (by omega))
        refine sr_workc hp1 r1 r2 c8 hnt hn150 r3 (by omega) r4 h5.2.2.2.1 (by omega) (fun z => absurd z (by omega)) (fun _ => ?_)
        rw [hm]
        dsimp only
        rw [hx]
        intro I5 hW
        obtain ⟨w8, w10, w0, w2, wT, wP, w34, w46, w35, wF⟩ := hW
        have wL : ∀ o k, o < 163 → I5 o k = I4 o k := fun o k ho => wF o k (by unfold rSc; omega) (by omega) (by omega) (by omega) (by omega)
        have gg : ∀ o k, ¬ (o = 135 ∧ k = 1) → o ≠ 136 → ¬ (102 ≤ o ∧ o ≤ 110) → o ≠ 1 → ¬ (o = 0 ∧ (k = 12 ∨ k = 15 ∨ k = 16)) → ¬ rSc o k → ¬ (o = 163 ∧ (k = 0 ∨ k = 2 ∨ k = 3 ∨ k = 8 ∨ k = 10 ∨ k = 34 ∨ k = 35 ∨ k = 36 ∨ k = 37 ∨ k = 38 ∨ k = 46)) → o ≠ 179 → o ≠ 180 → ¬ (o = 182 ∧ 25 * m ≤ k) → I5 o k = I o k := fun o k e1 e2 e3 e4 e5 e6 e7 e8 e9 e10 => by rw [wF o k e6 e7 e8 e9 e10, f3 o k e1 e2 e3 e4 e5]
        have t182 : ∀ k, k < 25 → I5 182 (25 * m + k) = I 180 k := fun k hk => by rw [wP k hk]; exact f3 _ _ (by omega) (by omega) (by omega) (by omega) (by omega)
        refine kk2 I5 ⟨r, la, w, xx.1, fup p m T, m + 1, q, c, ms, L, hP1, h2, h3, h4.new hr h2 ⟨by rw [wL _ _ (by omega)]; exact zT.1, zT.2.1, fun i hi => by rw [wL _ _ (by omega)]; exact zT.2.2 i hi⟩ hxok.1.1 (fun k => gg _ _ (by omega) (by omega) (by omega) (by omega) (by omega) (by unfold rSc; omega) (by omega) (by omega) (by omega) (by omega)) rfl (fun o k a b => gg o k (by omega) (by omega) (by omega) (by omega) (by omega) (by unfold rSc; omega) (by omega) (by omega) (by omega) (by omega)) (fun _ _ => rfl) (by rw [wL _ _ (by omega)]; exact z12), h5.new wT hxok.1.1 (fun o k e => gg o k (by omega) (by omega) (by omega) (by omega) (by omega) (by unfold rSc; omega) (by omega) (by omega) (by omega) (by omega)) w46, h6.of (fun o k a b => gg o k (by omega) (by omega) (by omega) (by omega) (by omega) (by unfold rSc; omega) (by omega) (by omega) (by omega) (by omega)), h7.tape (fun o k e => gg o k (by omega) (by omega) (by omega) (by omega) (by omega) (by unfold rSc; omega) (by omega) (by omega) (by omega) (by omega)) ?_ ?_ ?_ ?_ w2, ⟨⟨by omega, fun k hk => ?_, zS.of (fun o k a b => wL o k (by omega)), w34, fun k hk => ?_⟩, ?_⟩, h9.of hla (fun o k e => gg o k (by omega) (by omega) (by omega) (by omega) (by omega) (by unfold rSc; omega) (by omega) (by omega) (by omega) (by omega))⟩ w0
        · rw [w10, wL _ _ (by omega)]; exact z15
        · rw [w35, wL _ _ (by omega)]; exact z16
        · rw [w8, wL _ _ (by omega), z1]; exact g16
        · rw [wL _ _ (by omega), z1]; exact g11
        · unfold fup
          split
          · exact h4.2.2.1
          · exact hpo k (by omega)
        · unfold fup
          by_cases e : k = m
          · subst e
            rw [if_pos rfl]
            refine ⟨by rw [show 25 * k = 25 * k + 0 from rfl, t182 0 (by omega)]; exact h5.2.2.1.1, fun i hi => ?_⟩
            rw [show 25 * k + 1 + i = 25 * k + (1 + i) by omega, t182 _ (by omega)]
            exact h5.2.2.1.2.2 i hi
          · rw [if_neg e]
            obtain ⟨u1, u2⟩ := hsR.2 k (by omega)
            have u24 := (hpo k (by omega)).1
            exact ⟨by rw [gg _ _ (by omega) (by omega) (by omega) (by omega) (by omega) (by unfold rSc; omega) (by omega) (by omega) (by omega) (by omega)]; exact u1, fun i hi => by rw [gg _ _ (by omega) (by omega) (by omega) (by omega) (by omega) (by unfold rSc; omega) (by omega) (by omega) (by omega) (by omega)]; exact u2 i hi⟩
        · obtain ⟨d1, d2, ⟨d3, d4⟩, d5, d6⟩ := hI
          exact ⟨d1, d2, ⟨by rw [gg _ _ (by omega) (by omega) (by omega) (by omega) (by omega) (by unfold rSc; omega) (by omega) (by omega) (by omega) (by omega)]; exact d3, fun j hj => (d4 j hj).of (fun o k a b => gg o k (by omega) (by omega) (by omega) (by omega) (by omega) (by unfold rSc; omega) (by omega) (by omega) (by omega) (by omega))⟩, by rw [gg _ _ (by omega) (by omega) (by omega) (by omega) (by omega) (by unfold rSc; omega) (by omega) (by omega) (by omega) (by omega)]; exact d5, fun j hj => (d6 j hj).of (fun k => gg _ _ (by omega) (by omega) (by omega) (by omega) (by omega) (by unfold rSc; omega) (by omega) (by omega) (by omega) (by omega))⟩
    · have e16 : m = 16 := by omega
      rw [if_neg (fun z => c16 ((llt 16 (by omega) (by omega)).mp z))]
      refine sp_rd_start (d := D' + 8) hp (am_back (v143_53 hp ?_))
      rw [if_neg (by decide)]
      obtain ⟨S, eS⟩ : ∃ S, S = am_u (am_u (am_u (am_u (am_u (am_u (am_u I 1 2 0) 1 1 0) 1 3 0) 1 4 0) 1 5 0) 1 6 (-1)) 0 15 (-1) := ⟨_, rfl⟩
      rw [← eS]
      have s1 : S 1 1 = 0 := by rw [eS]; simp [am_u]
      have s6 : S 1 6 = -1 := by rw [eS]; simp [am_u]
      have s15 : S 0 15 = -1 := by rw [eS]; exact am_u_same
      have sF : ∀ o k, o ≠ 1 → ¬ (o = 0 ∧ k = 15) → S o k = I o k := fun o k e1 e2 => by rw [eS, am_u_nq (by omega), am_u_nq (by omega), am_u_nq (by omega), am_u_nq (by omega), am_u_nq (by omega), am_u_nq (by omega), am_u_nq (by omega)]
      refine kk (.inr (-20)) S J Pf (fun E z => by cases z) (fun J2 hJ2 D2 P2 hD2 kk2 => ?_) (fun k => sF _ _ (by omega) (by omega)) rfl
      replace kk2 := fun I2 hi => kk2 I2 (INV.j202 hJ2 hi)
      refine sr_workc (b := I 2) (T := T) (nw := m) hp (by rw [c6]; funext k; exact sF _ _ (by omega) (by omega)) ((sF _ _ (by omega) (by omega)).trans c10) c8 hnt hn150 ((sF _ _ (by omega) (by omega)).trans hsR.1) (by omega) ⟨(sF _ _ (by omega) (by omega)).trans h5.2.2.1.1, h5.2.2.1.2.1, fun i hi => (sF _ _ (by omega) (by omega)).trans (h5.2.2.1.2.2 i hi)⟩ h5.2.2.2.1 (by omega) (fun _ I3 hW => ?_) (fun z => absurd z (by omega))
      obtain ⟨w8, w10, w0, w2, wF⟩ := hW
      have gg : ∀ o k, ¬ (o = 0 ∧ k = 15) → o ≠ 1 → ¬ rSc o k → ¬ (o = 163 ∧ (k = 0 ∨ k = 2 ∨ k = 3 ∨ k = 8 ∨ k = 10)) → I3 o k = I o k := fun o k e1 e2 e6 e7 => by rw [wF o k e6 e7, sF o k e2 e1]
      refine kk2 I3 ⟨r, la, w, T, p, m, q, c, ms, L, h1, h2, h3, h4.dep hr h2 (fun o k e => gg o k (by omega) (by omega) (by unfold rSc; omega) (by omega)) (fun _ _ => rfl) rfl, h5.of (fun o y e => gg o y (by omega) (by omega) (by unfold rSc; omega) (by omega)), h6.of (fun o k a b => gg o k (by omega) (by omega) (by unfold rSc; omega) (by omega)), h7.tape (fun o k e => gg o k (by omega) (by omega) (by unfold rSc; omega) (by omega)) ?_ ?_ ?_ ?_ w2, h8.of (fun o k e => gg o k (by omega) (by omega) (by unfold rSc; omega) (by omega)), h9.of hla (fun o k e => gg o k (by omega) (by omega) (by unfold rSc; omega) (by omega))⟩ w0
      · rw [w10, wF _ _ (by unfold rSc; omega) (by omega)]; exact s15
      · rw [gg _ _ (by omega) (by omega) (by unfold rSc; omega) (by omega), gg _ _ (by omega) (by omega) (by unfold rSc; omega) (by omega)]; exact c2
      · rw [w8, wF _ _ (by unfold rSc; omega) (by omega)]; exact s6
      · rw [wF _ _ (by unfold rSc; omega) (by omega)]; exact s1
  refine am_mth_of rfl rfl (v143_0 hp ?_)
  rw [c9]
  by_cases ct : 150 < tp
  · rw [if_pos ((glt 150 (by omega) (by omega)).mpr ct), show (150 : Int32) = ni 150 from rfl]
    have e : min tp 150 = 150 := by omega
    rw [e] at BAD GOOD
    exact sc_in (d := D' + 3) hp (by omega) (fun a ha hab => am_back (by rw [ha]; exact GOOD a ha hab)) (fun hb => am_thru rfl (BAD hb))
  · rw [if_neg (fun z => ct ((glt 150 (by omega) (by omega)).mp z))]
    have e : min tp 150 = tp := by omega
    rw [e] at BAD GOOD
    exact sc_in (d := D' + 3) hp (by omega) (fun a ha hab => am_back (by rw [ha]; exact GOOD a ha hab)) (fun hb => am_thru rfl (BAD hb))
