/-! A grammar is told -/
theorem INp.rd {Pf : am_R} {r la x : Nat} (h : INp Pf r la) : INp (rdPf Pf x) r la := by
  obtain ⟨hp, hr, k2, k3, ⟨kF1, kF2⟩, hla, k4, k5⟩ := h
  unfold rdPf
  exact ⟨rdPf_hp hp, hr, by rw [am_u_nq (by omega), am_u_nq (by omega)]; exact k2, by rw [am_u_nq (by omega), am_u_nq (by omega)]; exact k3, ⟨by rw [am_u_nq (by omega), am_u_nq (by omega)]; exact kF1, by rw [am_u_nq (by omega), am_u_nq (by omega)]; exact kF2⟩, hla, by rw [am_u_nq (by omega), am_u_nq (by omega)]; exact k4, by rw [am_u_nq (by omega), am_u_nq (by omega)]; exact k5⟩
theorem INp.sww {Pf : am_R} {r la : Nat} (h : INp Pf r la) : INp (am_u (am_u (am_u (am_u Pf 0 2 (some (71 - r))) 0 3 (some r)) 112 0 (some (71 - r))) 112 1 (some (71 - r + 15))) (71 - r) la := by
  obtain ⟨hp, hr, k2, k3, ⟨kF1, kF2⟩, hla, k4, k5⟩ := h
  refine ⟨(((hp.set rfl).set rfl).set rfl).set rfl, by omega, ?_, ?_, ⟨?_, am_u_same⟩, hla, ?_, ?_⟩
  · rw [am_u_nq (by omega), am_u_nq (by omega), am_u_nq (by omega)]; exact am_u_same
  · rw [am_u_nq (by omega), am_u_nq (by omega), am_u_same]
    congr 1
    omega
  · rw [am_u_nq (by omega)]; exact am_u_same
  · rw [am_u_nq (by omega), am_u_nq (by omega), am_u_nq (by omega), am_u_nq (by omega)]; exact k4
  · rw [am_u_nq (by omega), am_u_nq (by omega), am_u_nq (by omega), am_u_nq (by omega)]; exact k5
theorem pr_grammar {I : am_I} {J : am_J} {Pf : am_R} (h : INV I J Pf) (x : Int32) : PAIR cd1 141 229 [.int x] I J Pf := by
  obtain ⟨r, la, w, T, p, m, q, c, ms, L, h1, h2, h3, h4, h5, h6, h7, h8, h9⟩ := id h
  obtain ⟨hp, hr, k2, k3, kF, hla, k4, k5⟩ := id h1
  obtain ⟨c1, c2, c3, c4, c5, c6, c7, tp, c8, c9, c10⟩ := id h7
  intro D P hD kk
  obtain ⟨D', rfl⟩ : ∃ D', D = D' + 60 := ⟨D - 60, by omega⟩
  have BAD : ¬ inW x tp → P (.inr 1, (am_SH, am_u I 0 19 (I 0 19 + 1), J, Pf), 1, 6) := by
    intro hb
    refine PAIR_bad (yr := 229) (as := [.int x]) (yc := 141) rfl h kk (fun J2 D2 P2 I1 hD2 f k2 => ?_)
    obtain ⟨D2', rfl⟩ : ∃ D', D2 = D' + 4 := ⟨D2 - 4, by omega⟩
    refine am_mth_of rfl rfl (v229_0 hp ?_)
    rw [f 163 2 (by omega), c10]
    by_cases e1 : x < 0
    · rw [if_pos e1]; exact k2
    rw [if_neg e1]
    by_cases e2 : ni tp < x
    · rw [if_pos e2]; exact k2
    exact absurd (inW_of (by omega) e1 e2) hb
  have GOOD : ∀ n, x = ni n → n ≤ tp → am_go none (D' + 59) 141 (13, [some (.ref 0), some (.int (ni n)), none, none], [], (am_SH, I, J, Pf), 0, 0) P := by
    intro n hx hnt
    subst hx
    refine v141_13 hp (sp_rd_start (d := D' + 58) hp (am_back (v141_21 hp ?_)))
    have hr' : 71 - r = 16 ∨ 71 - r = 55 := by omega
    have hrr : 71 - r ≤ 55 ∧ 16 ≤ 71 - r ∧ (71 - r + 39 ≤ r ∨ r + 39 ≤ 71 - r) ∧ r ≤ 55 ∧ 16 ≤ r := by omega
    refine ⟨71 - r, k3, rul_sh hr', ?_⟩
    obtain ⟨S, eS⟩ : ∃ S, S = am_u (am_u (am_u (am_u (am_u (am_u I 1 2 (ni n)) 1 1 0) 1 3 0) 1 4 0) 1 5 0) 1 6 (-1) := ⟨_, rfl⟩
    rw [← eS]
    have s1 : S 1 1 = 0 := by rw [eS]; simp [am_u]
    have s2 : S 1 2 = ni n := by rw [eS]; simp [am_u]
    have s3 : S 1 3 = ni 0 := by rw [eS]; simp [am_u]; rfl
    have s4 : S 1 4 = 0 := by rw [eS]; simp [am_u]
    have s5 : S 1 5 = 0 := by rw [eS]; simp [am_u]
    have sF : ∀ o k, o ≠ 1 → S o k = I o k := fun o k e1 => by rw [eS, am_u_nq (by omega), am_u_nq (by omega), am_u_nq (by omega), am_u_nq (by omega), am_u_nq (by omega), am_u_nq (by omega)]
    have s6 : S 1 6 = -1 := by rw [eS]; exact am_u_same
    have sR : RD S n 0 := ⟨s2, s3, Nat.zero_le _, by omega⟩
    have sb : S 2 = I 2 := by funext k; exact sF _ _ (by omega)
    have hP1 := h1.rd (x := 71 - r)
    have hp1 := hP1.1
    refine sc_readall2 (b := I 2) (n := n) (d := D' + 17) (T := I 166) hp hr' c7 sb sR s5 s4 ?_
    cases hm : mGram (I 2) n (I 166) with
    | inl f =>
      intro q1 q2 I1 J1 q5 q6 q32 qF qJ
      refine am_back (v141_36 hp1 rfl ?_)
      rw [if_pos rfl, q5, q32]
      have f1 : ∀ o k, ¬ (o = 0 ∧ k = 15) → o ≠ 1 → o ≠ 3 → ¬ (5 ≤ o ∧ o ≤ 7) → ¬ (71 - r ≤ o ∧ o < 71 - r + 39) → (am_u I1 0 15 (ni f.2.2)) o k = I o k := fun o k e1 e2 e3 e4 e5 => by rw [am_u_nq e1, qF o k (by omega) (by omega) e4 e5, sF o k e2]
      have f15 : (am_u I1 0 15 (ni f.2.2)) 0 15 = ni f.2.2 := am_u_same
      have f16 : (am_u I1 0 15 (ni f.2.2)) 1 6 = ni f.2.1 := by rw [am_u_nq (by omega)]; exact q6
      have f11 : (am_u I1 0 15 (ni f.2.2)) 1 1 = 0 := by rw [am_u_nq (by omega), qF _ _ (by omega) (by omega) (by omega) (by omega)]; exact s1
      generalize am_u I1 0 15 (ni f.2.2) = I2 at f1 f15 f16 f11 ⊢
      refine kk (.inr (ni f.1 - 10)) I2 J1 _ (fun E z => by cases z) (fun J2 hJ2 D2 P2 hD2 kk2 => ?_) (fun k => f1 _ _ (by omega) (by omega) (by omega) (by omega) (by omega)) (qJ _ (by omega) (by omega))
      replace kk2 := fun I2 hi => kk2 I2 (INV.j202 hJ2 hi)
      obtain ⟨D2', rfl⟩ : ∃ D', D2 = D' + 42 := ⟨D2 - 42, by omega⟩
      have t166 : I2 166 = I 166 := by funext k; exact f1 _ _ (by omega) (by omega) (by omega) (by omega) (by omega)
      refine sr_grammar (b := I 2) (g := w) hp1 (by rw [c6]; funext k; exact f1 _ _ (by omega) (by omega) (by omega) (by omega) (by omega)) ((f1 _ _ (by omega) (by omega) (by omega) (by omega) (by omega)).trans c10) c8 hnt h2 (by rw [← h5.1]; funext k; exact f1 _ _ (by omega) (by omega) (by omega) (by omega) (by omega)) ?_
      rw [t166, hm]
      intro _ _ I3 hE
      obtain ⟨w1, w8, w10, w2, w0, wF⟩ := hE
      have gg : ∀ o k, ¬ (o = 0 ∧ k = 15) → o ≠ 1 → o ≠ 3 → ¬ (5 ≤ o ∧ o ≤ 7) → ¬ (71 - r ≤ o ∧ o < 71 - r + 39) → ¬ rGs o k → I3 o k = I o k := fun o k e1 e2 e3 e4 e5 e6 => by rw [wF o k e6, f1 o k e1 e2 e3 e4 e5]
      obtain ⟨v1, v2, v3, v4, v5, v6⟩ := h5
      have hQ : rQ I3 w T := by
        have h5' : rQ (fun o k => if o = 171 then I o k else I3 o k) w T := rQ.of ⟨v1, v2, v3, v4, v5, v6⟩ (fun o y ho => by
          by_cases e : o = 171
          · show (if o = 171 then I o y else I3 o y) = I o y
            rw [if_pos e]
          · show (if o = 171 then I o y else I3 o y) = I o y
            rw [if_neg e]
            exact gg o y (by omega) (by omega) (by omega) (by omega) (by omega) (by unfold rGs; omega))
        obtain ⟨u1, u2, u3, u4, u5, u6⟩ := h5'
        exact ⟨u1, w1.2.2, u3, u4, u5, u6⟩
      refine kk2 I3 ⟨r, la, w, T, p, m, q, c, ms, L, hP1, h2, h3, h4.depJ hr h2 (fun o k e => gg o k (by omega) (by omega) (by omega) (by omega) (by omega) (by unfold rGs; omega)) (fun o a b => qJ o (by omega) (by omega)) (qJ _ (by omega) (by omega)), hQ, w1, h7.tape (fun o k e => gg o k (by omega) (by omega) (by omega) (by omega) (by omega) (by unfold rGs; omega)) ?_ ?_ ?_ ?_ w2, h8.of (fun o k e => gg o k (by omega) (by omega) (by omega) (by omega) (by omega) (by unfold rGs; omega)), h9.of hla (fun o k e => gg o k (by omega) (by omega) (by omega) (by omega) (by omega) (by unfold rGs; omega))⟩ w0
      · rw [w10, wF _ _ (by unfold rGs; omega)]; exact f15
      · rw [gg _ _ (by omega) (by omega) (by omega) (by omega) (by omega) (by unfold rGs; omega), gg _ _ (by omega) (by omega) (by omega) (by omega) (by omega) (by unfold rGs; omega)]; exact c2
      · rw [w8, wF _ _ (by unfold rGs; omega)]; exact f16
      · rw [wF _ _ (by unfold rGs; omega)]; exact f11
    | inr w' =>
      intro gW gS I1 J1 gC gSo q6x qF qJ
      refine am_back (v141_36 hp1 rfl ?_)
      rw [if_neg (by decide)]
      have hP2 := hP1.sww
      obtain ⟨d2, d3⟩ : rdPf Pf (71 - r) 0 2 = some r ∧ rdPf Pf (71 - r) 0 3 = some (71 - r) := ⟨hP1.2.2.1, hP1.2.2.2.1⟩
      have g15x : ∀ o k, ¬ (o = 0 ∧ k = 15) → (am_u I1 0 15 (-1)) o k = I1 o k := fun o k e => am_u_nq e
      have g15 : (am_u I1 0 15 (-1)) 0 15 = -1 := am_u_same
      refine ⟨r, d2, rul_sh hr, 71 - r, d3, rul_sh hr', ?_, 71 - r, ?_, rul_sh hr', ?_⟩
      · rw [am_u_nq (by omega), am_u_nq (by omega)]; exact hp1 _ _ _ rfl
      · rw [am_u_nq (by omega)]; exact am_u_same
      generalize am_u I1 0 15 (-1) = I2 at g15x g15 ⊢
      have hpA : am_PF (am_u (am_u (rdPf Pf (71 - r)) 0 2 (some (71 - r))) 0 3 (some r)) := (hp1.set rfl).set rfl
      refine am_mth_of rfl rfl (v1_0 hpA (rul_sh hr') ?_)
      refine ⟨71 - r + 15, ?_, by rcases hr' with e | e <;> (rw [e]; rfl), ?_, ?_⟩
      · rw [am_u_nq (by omega)]
        rcases hr' with e | e
        · rw [e]; exact hpA _ _ _ rfl
        · rw [e]; exact hpA _ _ _ rfl
      · rw [am_u_nq (by omega), am_u_nq (by omega)]; exact hpA _ _ _ rfl
      generalize hPf2 : am_u (am_u (am_u (am_u (rdPf Pf (71 - r)) 0 2 (some (71 - r))) 0 3 (some r)) 112 0 (some (71 - r))) 112 1 (some (71 - r + 15)) = Pf2 at hP2 ⊢
      have hp2 := hP2.1
      refine sj_fill (d0 := D' + 57) (L := 256) hp2 rfl (by omega) (fun I3 b1 b2' => am_back (v1_21 hp2 (am_back (v141_100 hp2 ?_))))
      have sla : am_SH[la]? = some (.inl 2) := by rcases hla with rfl | rfl <;> rfl
      refine ⟨la, hP2.2.2.2.2.2.2.1, sla, ?_⟩
      have n0 : Int32.toNatClampNeg 0 = 0 := z00
      have b3 : ∀ o k, ¬ (o = 119 ∧ k < 256) → ¬ (o = 112 ∧ k = 9) → (am_u I3 112 9 0) o k = I2 o k := fun o k e1 e2 => by rw [am_u_nq e2]; exact b2' o k e1
      have b4 : ∀ k, k < 256 → (am_u I3 112 9 0) 119 k = -1 := fun k hk => by rw [am_u_nq (by omega)]; exact b1 k hk
      generalize am_u I3 112 9 0 = I4 at b3 b4 ⊢
      refine am_mth_of rfl rfl (v40_0 hp2 sla ?_)
      have e20 : (am_u (am_u I4 la 2 0) (la + 1) 0 0) la 2 = 0 := by rw [am_u_nq (by omega)]; exact am_u_same
      rw [e20, n0, show (am_u (am_u (am_u I4 la 2 0) (la + 1) 0 0) (la + 2) 0 1) la 2 = 0 by rw [am_u_nq (by omega)]; exact e20]
      refine ⟨by decide, am_back (v141_107 hp2 ?_)⟩
      refine ⟨71 - r, hP2.2.2.1, rul_sh hr', ?_⟩
      have l2 : (am_u (am_u (am_u (am_u I4 la 2 0) (la + 1) 0 0) (la + 2) 0 1) la 2 (0 + 1)) la 2 = 1 := am_u_same
      have l10 : (am_u (am_u (am_u (am_u I4 la 2 0) (la + 1) 0 0) (la + 2) 0 1) la 2 (0 + 1)) (la + 1) 0 = 0 := by rw [am_u_nq (by omega), am_u_nq (by omega)]; exact am_u_same
      have l20 : (am_u (am_u (am_u (am_u I4 la 2 0) (la + 1) 0 0) (la + 2) 0 1) la 2 (0 + 1)) (la + 2) 0 = 1 := by rw [am_u_nq (by omega)]; exact am_u_same
      have lF : ∀ o k, ¬ (la ≤ o ∧ o ≤ la + 2) → (am_u (am_u (am_u (am_u I4 la 2 0) (la + 1) 0 0) (la + 2) 0 1) la 2 (0 + 1)) o k = I4 o k := fun o k e => by rw [am_u_nq (by omega), am_u_nq (by omega), am_u_nq (by omega), am_u_nq (by omega)]
      generalize am_u (am_u (am_u (am_u I4 la 2 0) (la + 1) 0 0) (la + 2) 0 1) la 2 (0 + 1) = I5 at l2 l10 l20 lF ⊢
      have eF : ∀ o k, ¬ (o = 0 ∧ (k = 9 ∨ k = 12 ∨ k = 16)) → ¬ (o = 108 ∧ k = 2) → ¬ (o = 135 ∧ k = 1) → (am_u (am_u (am_u (am_u (am_u I5 0 9 0) 108 2 0) 135 1 0) 0 16 0) 0 12 0) o k = I5 o k := fun o k e1 e2 e3 => by rw [am_u_nq (by omega), am_u_nq (by omega), am_u_nq (by omega), am_u_nq (by omega), am_u_nq (by omega)]
      have e9 : (am_u (am_u (am_u (am_u (am_u I5 0 9 0) 108 2 0) 135 1 0) 0 16 0) 0 12 0) 0 9 = 0 := by rw [am_u_nq (by omega), am_u_nq (by omega), am_u_nq (by omega), am_u_nq (by omega)]; exact am_u_same
      have e108 : (am_u (am_u (am_u (am_u (am_u I5 0 9 0) 108 2 0) 135 1 0) 0 16 0) 0 12 0) 108 2 = 0 := by rw [am_u_nq (by omega), am_u_nq (by omega), am_u_nq (by omega)]; exact am_u_same
      have e135 : (am_u (am_u (am_u (am_u (am_u I5 0 9 0) 108 2 0) 135 1 0) 0 16 0) 0 12 0) 135 1 = 0 := by rw [am_u_nq (by omega), am_u_nq (by omega)]; exact am_u_same
      have e16 : (am_u (am_u (am_u (am_u (am_u I5 0 9 0) 108 2 0) 135 1 0) 0 16 0) 0 12 0) 0 16 = 0 := by rw [am_u_nq (by omega)]; exact am_u_same
      have e12 : (am_u (am_u (am_u (am_u (am_u I5 0 9 0) 108 2 0) 135 1 0) 0 16 0) 0 12 0) 0 12 = 0 := am_u_same
      generalize am_u (am_u (am_u (am_u (am_u I5 0 9 0) 108 2 0) 135 1 0) 0 16 0) 0 12 0 = I6 at eF e9 e108 e135 e16 e12 ⊢
      -- how the state lies to that behind the reading, and to the first
      have tF : ∀ o k, ¬ (o = 0 ∧ (k = 9 ∨ k = 12 ∨ k = 15 ∨ k = 16)) → ¬ (o = 108 ∧ k = 2) → ¬ (o = 135 ∧ k = 1) → ¬ (la ≤ o ∧ o ≤ la + 2) → ¬ (o = 119 ∧ k < 256) → ¬ (o = 112 ∧ k = 9) → I6 o k = I1 o k := fun o k a b c d e f => by rw [eF o k (by omega) b c, lF o k d, b3 o k e f, g15x o k (by omega)]
      have uF : ∀ o k, o = 2 ∨ 163 ≤ o ∨ (o = 0 ∧ (k = 18 ∨ k = 19)) → I6 o k = I o k := fun o k e => by rw [tF o k (by omega) (by omega) (by omega) (by omega) (by omega) (by omega), qF o k (by omega) (by omega) (by omega) (by omega), sF o k (by omega)]
      have t15 : I6 0 15 = -1 := by rw [eF _ _ (by omega) (by omega) (by omega), lF _ _ (by omega), b3 _ _ (by omega) (by omega)]; exact g15
      have tv : I6 (71 - r) 2 = w' 1 := by rw [tF _ _ (by omega) (by omega) (by omega) (by omega) (by omega) (by omega)]; exact gC.1.2.1
      rw [tv]
      refine kk (.inr (w' 1)) I6 J1 Pf2 (fun E z => by cases z) (fun J2 hJ2 D2 P2 hD2 kk2 => ?_) (fun k => uF _ _ (by omega)) (qJ _ (by omega) (by omega))
      replace kk2 := fun I2 hi => kk2 I2 (INV.j202 hJ2 hi)
      obtain ⟨D2', rfl⟩ : ∃ D', D2 = D' + 42 := ⟨D2 - 42, by omega⟩
      have t166 : I6 166 = I 166 := by funext k; exact uF _ _ (by omega)
      refine sr_grammar (b := I 2) (g := w) hp2 (by rw [c6]; funext k; exact uF _ _ (by omega)) ((uF _ _ (by omega)).trans c10) c8 hnt h2 (by rw [← h5.1]; funext k; exact uF _ _ (by omega)) ?_
      rw [t166, hm]
      intro _ _ w2 I7 hagr hGG
      obtain ⟨z167, zSo, z8, z10, z2, z0, z29, z34, z65, z35, z48, z46, z180, zF⟩ := hGG
      have hW2 := gW.agr hagr
      have hS2 := gS.agr gW hagr
      have zL : ∀ o k, o < 163 → I7 o k = I6 o k := fun o k ho => zF o k (by unfold rGs; omega) (by omega) (by omega) (by omega)
      have hRs : cRs (71 - r) I7 J1 w2 := cRs.midJ hr' hW2 ⟨gC.agr gW hagr, gSo.agr gW hagr⟩ (fun o k a b => by rw [zL o k (by omega)]; exact tF o k (by omega) (by omega) (by omega) (by omega) (by omega) (by omega)) (fun _ _ _ => rfl)
      have t119 : ∀ k, k < 256 → I7 119 k = -1 := fun k hk => by rw [zL _ _ (by omega), eF _ _ (by omega) (by omega) (by omega), lF _ _ (by omega)]; exact b4 k hk
      have tO : txOK (0, fun _ => (0 : Int32)) := ⟨Nat.zero_le _, fun i hi => absurd hi (Nat.not_lt_zero i)⟩
      refine kk2 I7 ⟨71 - r, la, w2, (0, fun _ => 0), (fun _ => (0, fun _ => 0)), 0, (fun _ _ => (0, fun _ => 0)), 0, (fun _ => 0), (0, fun _ => (0, 0)), hP2, hW2, hS2, ⟨hRs, ⟨by rw [zL _ _ (by omega)]; exact e135, Nat.zero_le _, fun i hi => absurd hi (Nat.not_lt_zero i)⟩, tO, fun k hk => Or.inl (t119 k hk), Or.inl (by rw [zL _ _ (by omega)]; exact e12)⟩, ⟨z167, zSo.2.2, ⟨z180 0 (by omega), Nat.zero_le _, fun i hi => absurd hi (Nat.not_lt_zero i)⟩, tO, ⟨0, Nat.zero_le _, z48, fun e he => absurd he (Nat.not_lt_zero e)⟩, Or.inl z46⟩, zSo, h7.tape (fun o k e => ?_) ?_ ?_ ?_ ?_ z2, ⟨⟨Nat.zero_le _, fun k hk => absurd hk (Nat.not_lt_zero k), ⟨by rw [zL _ _ (by omega)]; exact e108, fun k hk => absurd hk (Nat.not_lt_zero k)⟩, z34, fun k hk => absurd hk (Nat.not_lt_zero k)⟩, Nat.zero_le _, fun j hj => absurd hj (Nat.not_lt_zero j), ⟨by rw [zL _ _ (by omega)]; exact e9, fun j hj => absurd hj (Nat.not_lt_zero j)⟩, z65, fun j hj => absurd hj (Nat.not_lt_zero j)⟩, ⟨⟨?_, fun i hi => ?_⟩, Or.inl rfl, z29, fun i hi => absurd hi (Nat.not_lt_zero i)⟩⟩ z0
      · rw [zF o k (by unfold rGs; omega) (by omega) (by omega) (by omega)]
        exact uF o k (by omega)
      · rw [z10, zL _ _ (by omega)]; exact t15
      · rw [z35, zL _ _ (by omega)]; exact e16
      · rw [z8, zL _ _ (by omega), tF _ _ (by omega) (by omega) (by omega) (by omega) (by omega) (by omega), q6x]; exact s6
      · rw [zL _ _ (by omega), tF _ _ (by omega) (by omega) (by omega) (by omega) (by omega) (by omega), qF _ _ (by omega) (by omega) (by omega) (by omega)]; exact s1
      · rw [zL _ _ (by omega), eF _ _ (by omega) (by omega) (by omega)]; exact l2
      · have hi0 : i < 1 := hi
        obtain rfl : i = 0 := by omega
        exact ⟨by rw [zL _ _ (by omega), eF _ _ (by omega) (by omega) (by omega)]; exact l10, by rw [zL _ _ (by omega), eF _ _ (by omega) (by omega) (by omega)]; exact l20⟩
  refine am_mth_of rfl rfl (v141_0 hp ?_)
  rw [c9]
  exact sc_in (d := D' + 53) hp (by omega) (fun a ha hab => am_back (by rw [ha]; exact GOOD a ha hab)) (fun hb => am_thru rfl (BAD hb))
