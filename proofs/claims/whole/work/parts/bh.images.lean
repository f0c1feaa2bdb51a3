/-! Images -/
section IMG
variable {P : am_O → Prop} {J : am_J} {Pf : am_R}
theorem sr_saves (hp : am_PF Pf) {I : am_I} {B o n Lo d : Nat} (ho : am_SH[o]? = some (.inr (0, Lo))) (hn : n ≤ Lo) (hn2 : Lo < 100000) (hB : B + n ≤ 1278) (ho2 : o ≠ 201) (kk : ∀ I', (∀ k, k < n → I' 201 (B + k) = I o k) → (∀ o' k', ¬ (o' = 201 ∧ B ≤ k' ∧ k' < B + n) → I' o' k' = I o' k') → P (.inl (some (.int (ni (B + n)))), (am_SH, I', J, Pf), 0, 0)) : am_mth (d + 2) 321 [.ref 163, .int (ni B), .ref o, .int (ni n), .int 1] (am_SH, I, J, Pf) P := by
  have LP : ∀ (y j : Nat) (I1 : am_I), n - j = y → j ≤ n → (∀ k, k < j → I1 201 (B + k) = I o k) → (∀ o' k', ¬ (o' = 201 ∧ B ≤ k' ∧ k' < B + n) → I1 o' k' = I o' k') → am_go none (d + 1) 321 (3, [some (.ref 163), some (.int (ni B)), some (.ref o), some (.int (ni n)), some (.int 1), some (.int (ni j))], [], (am_SH, I1, J, Pf), 0, 0) P := by
    intro y
    induction y with
    | zero =>
      intro j I1 hy hj a1 a2
      obtain rfl : j = n := by omega
      refine v321_3 hp ho ?_
      rw [if_pos ((ni_le (by omega) (by omega)).mpr (Nat.le_refl _)), ni_add]
      exact kk I1 a1 a2
    | succ y ih =>
      intro j I1 hy hj a1 a2
      refine v321_3 hp ho ?_
      rw [if_neg (fun z => absurd ((ni_le (by omega) (by omega)).mp z) (by omega)), if_neg (by decide), ni_add, show (ni j).toNatClampNeg = j from ni_nat (by omega), show (ni (B + j)).toNatClampNeg = B + j from ni_nat (by omega), ni_p1]
      refine ⟨ni_in (by omega) (by omega), ni_in (by omega) (by omega), ih (j + 1) _ (by omega) (by omega) (fun k hk => ?_) (fun o' k' e => by rw [am_u_nq (by omega)]; exact a2 o' k' e)⟩
      by_cases e : k = j
      · subst e
        rw [am_u_same]
        exact a2 _ _ (by omega)
      · rw [am_u_nq (by omega)]
        exact a1 k (by omega)
  refine am_mth_of rfl rfl (v321_0 hp ho ?_)
  rw [show (0 : Int32) = ni 0 from rfl]
  exact LP n 0 I rfl (Nat.zero_le _) (fun k hk => absurd hk (by omega)) (fun _ _ _ => rfl)
theorem sr_loads (hp : am_PF Pf) {I : am_I} {B o n Lo d : Nat} (ho : am_SH[o]? = some (.inr (0, Lo))) (hn : n ≤ Lo) (hn2 : Lo < 100000) (hB : B + n ≤ 1278) (ho2 : o ≠ 201) (kk : ∀ I', (∀ k, k < n → I' o k = I 201 (B + k)) → (∀ o' k', o' ≠ o → I' o' k' = I o' k') → P (.inl (some (.int (ni (B + n)))), (am_SH, I', J, Pf), 0, 0)) : am_mth (d + 2) 321 [.ref 163, .int (ni B), .ref o, .int (ni n), .int 0] (am_SH, I, J, Pf) P := by
  have LP : ∀ (y j : Nat) (I1 : am_I), n - j = y → j ≤ n → (∀ k, k < j → I1 o k = I 201 (B + k)) → (∀ o' k', o' ≠ o → I1 o' k' = I o' k') → am_go none (d + 1) 321 (3, [some (.ref 163), some (.int (ni B)), some (.ref o), some (.int (ni n)), some (.int 0), some (.int (ni j))], [], (am_SH, I1, J, Pf), 0, 0) P := by
    intro y
    induction y with
    | zero =>
      intro j I1 hy hj a1 a2
      obtain rfl : j = n := by omega
      refine v321_3 hp ho ?_
      rw [if_pos ((ni_le (by omega) (by omega)).mpr (Nat.le_refl _)), ni_add]
      exact kk I1 a1 a2
    | succ y ih =>
      intro j I1 hy hj a1 a2
      refine v321_3 hp ho ?_
      rw [if_neg (fun z => absurd ((ni_le (by omega) (by omega)).mp z) (by omega)), if_pos rfl, ni_add, show (ni j).toNatClampNeg = j from ni_nat (by omega), show (ni (B + j)).toNatClampNeg = B + j from ni_nat (by omega), ni_p1]
      refine ⟨ni_in (by omega) (by omega), ni_in (by omega) (by omega), ih (j + 1) _ (by omega) (by omega) (fun k hk => ?_) (fun o' k' e => by rw [am_u_nq (by omega)]; exact a2 o' k' e)⟩
      by_cases e : k = j
      · subst e
        rw [am_u_same]
        exact a2 _ _ (by omega)
      · rw [am_u_nq (by omega)]
        exact a1 k (by omega)
  refine am_mth_of rfl rfl (v321_0 hp ho ?_)
  rw [show (0 : Int32) = ni 0 from rfl]
  exact LP n 0 I rfl (Nat.zero_le _) (fun k hk => absurd hk (by omega)) (fun _ _ _ => rfl)
end IMG
theorem pr_image {I : am_I} {J : am_J} {Pf : am_R} (h : INV I J Pf) : PAIR cd1 171 323 [] I J Pf := by
  obtain ⟨r, la, w, T, p, m, q, c, ms, L, h1, h2, h3, h4, h5, h6, h7, h8, h9⟩ := id h
  obtain ⟨hp, hr, k2, k3, kF, hla, k4, k5⟩ := id h1
  obtain ⟨⟨m16, hpo, hsC, hsR⟩, c3, hq, ⟨hc0, hc1⟩, hr0, hr1⟩ := id h8
  intro D P hD kk
  obtain ⟨D', rfl⟩ : ∃ D', D = D' + 6 := ⟨D - 6, by omega⟩
  refine am_mth_of rfl rfl (v171_0 hp ?_)
  rw [hc0]
  by_cases cc : c = 3
  · rw [if_neg (fun z => absurd ((llt 3 (by omega) (by omega)).mp z) (by omega))]
    refine kk (.inr (-1)) I J Pf (fun E z => by cases z) (fun J2 hJ2 D2 P2 hD2 kk2 => ?_) (fun _ => rfl) rfl
    replace kk2 := fun I2 hi => kk2 I2 (INV.j202 hJ2 hi)
    obtain ⟨D2', rfl⟩ : ∃ D', D2 = D' + 4 := ⟨D2 - 4, by omega⟩
    refine am_mth_of rfl rfl (v323_0 hp ?_)
    rw [hr0, if_pos ((leq 3 (by omega) (by omega)).mpr cc)]
    exact kk2 (am_u I 163 0 0) h.z am_u_same
  · have c2 : c < 3 := by omega
    obtain ⟨so, sP⟩ := shObj_j c2 hp
    rw [if_pos ((llt 3 (by omega) (by omega)).mpr c2), show (ni c).toNatClampNeg = c from ni_nat (by omega)]
    refine ⟨ni_in (by omega) (by omega), 154 + 3 * c, sP, so.1, ?_⟩
    refine sc_shcopy (d := D' + 4) hp so shObj_8 (Or.inr (by omega)) hsC (by omega) hpo (fun I1 a1 a2 => am_back (v171_26 hp ?_))
    rw [a2 0 9 (by omega), hc0, show (ni c).toNatClampNeg = c from ni_nat (by omega)]
    refine ⟨ni_in (by omega) (by omega), 154 + 3 * c, sP, so.1, ?_⟩
    have gT : cTx 135 I1 T := ⟨by rw [a2 _ _ (by omega)]; exact h4.2.1.1, h4.2.1.2.1, fun i hi => by rw [a2 _ _ (by omega)]; exact h4.2.1.2.2 i hi⟩
    refine sc_shkeep (d := D' + 4) hp so ⟨by omega, by omega, by omega, by omega, by omega, by omega⟩ a1 (by omega) hpo gT (fun I2 b1 b2 => am_back (v171_42 hp ?_))
    rw [b2 0 9 (by omega), a2 0 9 (by omega), hc0, ni_p1]
    have f3 : ∀ o k, ¬ (154 + 3 * c ≤ o ∧ o ≤ 154 + 3 * c + 2) → ¬ (o = 0 ∧ k = 9) → (am_u I2 0 9 (ni (c + 1))) o k = I o k := fun o k e1 e2 => by rw [am_u_nq e2, b2 o k e1, a2 o k e1]
    have f9 : (am_u I2 0 9 (ni (c + 1))) 0 9 = ni (c + 1) := am_u_same
    have fS : shC (154 + 3 * c) (am_u I2 0 9 (ni (c + 1))) (fup p m T) (m + 1) := b1.of (fun o k e1 e2 => am_u_nq (by omega))
    generalize am_u I2 0 9 (ni (c + 1)) = I3 at f3 f9 fS ⊢
    refine kk (.inr (ni (c + 1))) I3 J Pf (fun E z => by cases z) (fun J2 hJ2 D2 P2 hD2 kk2 => ?_) (fun k => f3 _ _ (by omega) (by omega)) rfl
    replace kk2 := fun I2 hi => kk2 I2 (INV.j202 hJ2 hi)
    obtain ⟨D2', rfl⟩ : ∃ D', D2 = D' + 6 := ⟨D2 - 6, by omega⟩
    refine am_mth_of rfl rfl (v323_0 hp ?_)
    have z65 : I3 163 65 = ni c := by rw [f3 _ _ (by omega) (by omega)]; exact hr0
    rw [z65, if_neg (fun z => cc ((leq 3 (by omega) (by omega)).mp z))]
    have y0 : (am_u I3 163 0 0) 163 0 = 0 := am_u_same
    have yF : ∀ o k, ¬ (o = 163 ∧ k = 0) → (am_u I3 163 0 0) o k = I3 o k := fun o k e => am_u_nq e
    generalize am_u I3 163 0 0 = I4 at y0 yF ⊢
    refine am_mth_of rfl rfl (v322_0 hp ?_)
    rw [show (426 : Int32) = ni 426 from rfl, ni_mul, show (25 : Int32) = ni 25 from rfl]
    refine sr_saves (d := D2' + 2) (Lo := 25) hp rfl (Nat.le_refl _) (by omega) (by omega) (by omega) (fun I5 u1 u2 => am_back (v322_16 hp ?_))
    rw [show (400 : Int32) = ni 400 from rfl]
    refine sr_saves (d := D2' + 2) (Lo := 400) hp rfl (Nat.le_refl _) (by omega) (by omega) (by omega) (fun I6 v1 v2 => am_back (v322_30 hp ?_))
    have x34 : I6 163 34 = ni m := by rw [v2 _ _ (by omega), u2 _ _ (by omega), yF _ _ (by omega), f3 _ _ (by omega) (by omega)]; exact hsR.1
    rw [if_neg (by decide), show (ni (426 * c + 25 + 400)).toNatClampNeg = 426 * c + 425 by rw [ni_nat (by omega)], x34]
    refine ⟨ni_in (by omega) (by omega), am_back (v323_24 hp ?_)⟩
    have w65 : (am_u I6 201 (426 * c + 425) (ni m)) 163 65 = ni c := by rw [am_u_nq (by omega), v2 _ _ (by omega), u2 _ _ (by omega), yF _ _ (by omega)]; exact z65
    rw [w65, ni_p1]
    have G : ∀ o k, ¬ (o = 201 ∧ 426 * c ≤ k ∧ k < 426 * c + 426) → ¬ (o = 163 ∧ (k = 0 ∨ k = 65)) → (am_u (am_u I6 201 (426 * c + 425) (ni m)) 163 65 (ni (c + 1))) o k = I3 o k := fun o k e1 e2 => by rw [am_u_nq (by omega), am_u_nq (by omega), v2 _ _ (by omega), u2 _ _ (by omega), yF _ _ (by omega)]
    have G65 : (am_u (am_u I6 201 (426 * c + 425) (ni m)) 163 65 (ni (c + 1))) 163 65 = ni (c + 1) := am_u_same
    have G0 : (am_u (am_u I6 201 (426 * c + 425) (ni m)) 163 65 (ni (c + 1))) 163 0 = 0 := by rw [am_u_nq (by omega), am_u_nq (by omega), v2 _ _ (by omega), u2 _ _ (by omega)]; exact y0
    have Gm : (am_u (am_u I6 201 (426 * c + 425) (ni m)) 163 65 (ni (c + 1))) 201 (426 * c + 425) = ni m := by rw [am_u_nq (by omega)]; exact am_u_same
    have GT : ∀ k, k < 25 → (am_u (am_u I6 201 (426 * c + 425) (ni m)) 163 65 (ni (c + 1))) 201 (426 * c + k) = I 180 k := fun k hk => by rw [am_u_nq (by omega), am_u_nq (by omega), v2 _ _ (by omega), u1 k hk, yF _ _ (by omega), f3 _ _ (by omega) (by omega)]
    have GP : ∀ k, k < 400 → (am_u (am_u I6 201 (426 * c + 425) (ni m)) 163 65 (ni (c + 1))) 201 (426 * c + 25 + k) = I 182 k := fun k hk => by rw [am_u_nq (by omega), am_u_nq (by omega), v1 k hk, u2 _ _ (by omega), yF _ _ (by omega), f3 _ _ (by omega) (by omega)]
    generalize am_u (am_u I6 201 (426 * c + 425) (ni m)) 163 65 (ni (c + 1)) = I7 at G G65 G0 Gm GT GP ⊢
    have gg : ∀ o k, ¬ (154 + 3 * c ≤ o ∧ o ≤ 154 + 3 * c + 2) → ¬ (o = 0 ∧ k = 9) → ¬ (o = 201 ∧ 426 * c ≤ k ∧ k < 426 * c + 426) → ¬ (o = 163 ∧ (k = 0 ∨ k = 65)) → I7 o k = I o k := fun o k e1 e2 e3 e4 => by rw [G o k e3 e4, f3 o k e1 e2]
    refine kk2 I7 ⟨r, la, w, T, p, m, (fun j => if j = c then fup p m T else q j), c + 1, (fun j => if j = c then m else ms j), L, h1, h2, h3, h4.dep hr h2 (fun o k e => gg o k (by omega) (by omega) (by omega) (by omega)) (fun _ _ => rfl) rfl, h5.of (fun o y e => gg o y (by omega) (by omega) (by omega) (by omega)), h6.of (fun o k a b => gg o k (by omega) (by omega) (by omega) (by omega)), h7.of (fun o k e => gg o k (by omega) (by omega) (by omega) (by omega)), ⟨⟨m16, hpo, hsC.of (fun o k a b => gg o k (by omega) (by omega) (by omega) (by omega)), hsR.of (gg _ _ (by omega) (by omega) (by omega) (by omega)) (fun k => gg _ _ (by omega) (by omega) (by omega) (by omega))⟩, by omega, fun j hj => ?_, ⟨by rw [G _ _ (by omega) (by omega)]; exact f9, fun j hj => ?_⟩, G65, fun j hj => ?_⟩, h9.of hla (fun o k e => gg o k (by omega) (by omega) (by omega) (by omega))⟩ G0
    · dsimp only
      by_cases e : j = c
      · rw [if_pos e, if_pos e]
        refine ⟨m16, fun k hk => ?_⟩
        unfold fup
        split
        · exact h4.2.2.1
        · exact hpo k (by omega)
      · rw [if_neg e, if_neg e]
        exact hq j (by omega)
    · dsimp only
      by_cases e : j = c
      · rw [if_pos e, if_pos e, e]
        exact fS.of (fun o k a b => G o k (by omega) (by omega))
      · rw [if_neg e, if_neg e]
        exact (hc1 j (by omega)).of (fun o k a b => gg o k (by omega) (by omega) (by omega) (by omega))
    · dsimp only
      by_cases e : j = c
      · rw [if_pos e, if_pos e, e]
        refine ⟨?_, fun k hk => ?_, Gm⟩
        · have e2 : fup p m T m = T := by unfold fup; rw [if_pos rfl]
          rw [e2]
          refine ⟨?_, fun i hi => ?_⟩
          · rw [show 426 * c = 426 * c + 0 from rfl, GT 0 (by omega)]; exact h5.2.2.1.1
          · have := h5.2.2.1.2.1
            rw [show 426 * c + 1 + i = 426 * c + (1 + i) by omega, GT _ (by omega)]; exact h5.2.2.1.2.2 i hi
        · have e2 : fup p m T k = p k := by unfold fup; rw [if_neg (by omega)]
          rw [e2]
          obtain ⟨u1, u2⟩ := hsR.2 k hk
          have u24 := (hpo k hk).1
          refine ⟨by rw [GP _ (by omega)]; exact u1, fun i hi => ?_⟩
          rw [show 426 * c + 25 + 25 * k + 1 + i = 426 * c + 25 + (25 * k + 1 + i) by omega, GP _ (by omega)]
          exact u2 i hi
      · rw [if_neg e, if_neg e]
        obtain ⟨⟨u1, u2⟩, u3, u4⟩ := hr1 j (by omega)
        obtain ⟨m1, m2⟩ := hq j (by omega)
        have F : ∀ k, k < 426 * j + 426 → I7 201 k = I 201 k := fun k hk => gg _ _ (by omega) (by omega) (by omega) (by omega)
        have l0 := (m2 (ms j) (Nat.le_refl _)).1
        refine ⟨⟨by rw [F _ (by omega)]; exact u1, fun i hi => by rw [F _ (by omega)]; exact u2 i hi⟩, fun k hk => ?_, by rw [F _ (by omega)]; exact u4⟩
        have l1 := (m2 k (by omega)).1
        obtain ⟨t1, t2⟩ := u3 k hk
        exact ⟨by rw [F _ (by omega)]; exact t1, fun i hi => by rw [F _ (by omega)]; exact t2 i hi⟩
theorem pr_restore {I : am_I} {J : am_J} {Pf : am_R} (h : INV I J Pf) : PAIR cd1 172 324 [] I J Pf := by
  obtain ⟨r, la, w, T, p, m, q, c, ms, L, h1, h2, h3, h4, h5, h6, h7, h8, h9⟩ := id h
  obtain ⟨hp, hr, k2, k3, kF, hla, k4, k5⟩ := id h1
  obtain ⟨⟨m16, hpo, hsC, hsR⟩, c3, hq, ⟨hc0, hc1⟩, hr0, hr1⟩ := id h8
  intro D P hD kk
  obtain ⟨D', rfl⟩ : ∃ D', D = D' + 6 := ⟨D - 6, by omega⟩
  refine am_mth_of rfl rfl (v172_0 hp ?_)
  rw [hc0]
  cases c with
  | zero =>
    rw [if_pos (by decide)]
    refine kk (.inr (-1)) I J Pf (fun E z => by cases z) (fun J2 hJ2 D2 P2 hD2 kk2 => ?_) (fun _ => rfl) rfl
    replace kk2 := fun I2 hi => kk2 I2 (INV.j202 hJ2 hi)
    obtain ⟨D2', rfl⟩ : ∃ D', D2 = D' + 4 := ⟨D2 - 4, by omega⟩
    refine am_mth_of rfl rfl (v324_0 hp ?_)
    rw [hr0, if_pos (by decide)]
    exact kk2 (am_u I 163 0 0) h.z am_u_same
  | succ c =>
    have c2 : c < 3 := by omega
    obtain ⟨so, sP⟩ := shObj_j c2 hp
    obtain ⟨n16, nq⟩ := hq c (by omega)
    have nT := nq (ms c) (Nat.le_refl _)
    rw [if_neg (fun z => absurd ((leq 0 (by omega) (by omega)).mp z) (by omega)), show ni (c + 1) - 1 = ni c from ni_sub (a := c + 1) (b := 1) (by omega), show (ni c).toNatClampNeg = c from ni_nat (by omega)]
    refine ⟨ni_in (by omega) (by omega), 154 + 3 * c, sP, so.1, ?_⟩
    have hc1' : shC (154 + 3 * c) (am_u I 0 9 (ni c)) (q c) (ms c + 1) := (hc1 c (by omega)).of (fun o k a b => am_u_nq (by omega))
    refine sc_shcopy (d := D' + 4) hp shObj_8 so (Or.inl (by omega)) hc1' (by omega) (fun k hk => nq k (by omega)) (fun I1 a1 a2 => am_back (v172_35 hp ?_))
    refine sc_shback (d := D' + 4) hp shObj_8 (by decide) a1 (by omega) nT (fun I2 b1 b2 b3 => am_back (v172_46 hp ?_))
    have z9 : I2 0 9 = ni c := by rw [b3 _ _ (by omega) (by omega) (by omega), a2 _ _ (by omega)]; exact am_u_same
    rw [z9]
    have f3 : ∀ o k, ¬ (108 ≤ o ∧ o ≤ 110) → ¬ (o = 135 ∧ k = 1) → o ≠ 136 → ¬ (o = 0 ∧ (k = 9 ∨ k = 12 ∨ k = 16)) → (am_u (am_u I2 0 16 0) 0 12 0) o k = I o k := fun o k e1 e2 e3 e4 => by rw [am_u_nq (by omega), am_u_nq (by omega), b3 o k (by omega) e2 e3, a2 o k e1, am_u_nq (by omega)]
    have f9 : (am_u (am_u I2 0 16 0) 0 12 0) 0 9 = ni c := by rw [am_u_nq (by omega), am_u_nq (by omega)]; exact z9
    have f16 : (am_u (am_u I2 0 16 0) 0 12 0) 0 16 = 0 := by rw [am_u_nq (by omega)]; exact am_u_same
    have f12 : (am_u (am_u I2 0 16 0) 0 12 0) 0 12 = 0 := am_u_same
    have fS : shC 108 (am_u (am_u I2 0 16 0) 0 12 0) (q c) (ms c) := b1.of (fun o k e1 e2 => by rw [am_u_nq (by omega), am_u_nq (by omega)])
    have fT : cTx 135 (am_u (am_u I2 0 16 0) 0 12 0) (q c (ms c)) := ⟨by rw [am_u_nq (by omega), am_u_nq (by omega)]; exact b2.1, b2.2.1, fun i hi => by rw [am_u_nq (by omega), am_u_nq (by omega)]; exact b2.2.2 i hi⟩
    generalize am_u (am_u I2 0 16 0) 0 12 0 = I3 at f3 f9 f16 f12 fS fT ⊢
    refine kk (.inr (ni c)) I3 J Pf (fun E z => by cases z) (fun J2 hJ2 D2 P2 hD2 kk2 => ?_) (fun k => f3 _ _ (by omega) (by omega) (by omega) (by omega)) rfl
    replace kk2 := fun I2 hi => kk2 I2 (INV.j202 hJ2 hi)
    obtain ⟨D2', rfl⟩ : ∃ D', D2 = D' + 6 := ⟨D2 - 6, by omega⟩
    refine am_mth_of rfl rfl (v324_0 hp ?_)
    have z65 : I3 163 65 = ni (c + 1) := by rw [f3 _ _ (by omega) (by omega) (by omega) (by omega)]; exact hr0
    rw [z65, if_neg (fun z => absurd ((leq 0 (by omega) (by omega)).mp z) (by omega)), show ni (c + 1) - 1 = ni c from ni_sub (a := c + 1) (b := 1) (by omega)]
    have y0 : (am_u (am_u I3 163 0 0) 163 65 (ni c)) 163 0 = 0 := by rw [am_u_nq (by omega)]; exact am_u_same
    have y65 : (am_u (am_u I3 163 0 0) 163 65 (ni c)) 163 65 = ni c := am_u_same
    have yF : ∀ o k, ¬ (o = 163 ∧ (k = 0 ∨ k = 65)) → (am_u (am_u I3 163 0 0) 163 65 (ni c)) o k = I3 o k := fun o k e => by rw [am_u_nq (by omega), am_u_nq (by omega)]
    generalize am_u (am_u I3 163 0 0) 163 65 (ni c) = I4 at y0 y65 yF ⊢
    refine am_mth_of rfl rfl (v322_0 hp ?_)
    rw [show (426 : Int32) = ni 426 from rfl, ni_mul, show (25 : Int32) = ni 25 from rfl]
    refine sr_loads (d := D2' + 2) (Lo := 25) hp rfl (Nat.le_refl _) (by omega) (by omega) (by omega) (fun I5 u1 u2 => am_back (v322_16 hp ?_))
    rw [show (400 : Int32) = ni 400 from rfl]
    refine sr_loads (d := D2' + 2) (Lo := 400) hp rfl (Nat.le_refl _) (by omega) (by omega) (by omega) (fun I6 v1 v2 => am_back (v322_30 hp ?_))
    have t201 : ∀ k, I6 201 k = I 201 k := fun k => by rw [v2 _ _ (by omega), u2 _ _ (by omega), yF _ _ (by omega), f3 _ _ (by omega) (by omega) (by omega) (by omega)]
    have t201' : ∀ k, I5 201 k = I 201 k := fun k => by rw [u2 _ _ (by omega), yF _ _ (by omega), f3 _ _ (by omega) (by omega) (by omega) (by omega)]
    have t201'' : ∀ k, I4 201 k = I 201 k := fun k => by rw [yF _ _ (by omega), f3 _ _ (by omega) (by omega) (by omega) (by omega)]
    obtain ⟨⟨i1, i2⟩, i3, i4⟩ := hr1 c (by omega)
    rw [if_pos rfl, show (ni (426 * c + 25 + 400)).toNatClampNeg = 426 * c + 425 by rw [ni_nat (by omega)], t201, i4]
    refine ⟨ni_in (by omega) (by omega), am_back (v324_33 hp ?_)⟩
    have w65 : (am_u I6 163 34 (ni (ms c))) 163 65 = ni c := by rw [am_u_nq (by omega), v2 _ _ (by omega), u2 _ _ (by omega)]; exact y65
    rw [w65]
    have G : ∀ o k, o ≠ 180 → o ≠ 182 → ¬ (o = 163 ∧ (k = 0 ∨ k = 34 ∨ k = 35 ∨ k = 46 ∨ k = 65)) → (am_u (am_u (am_u I6 163 34 (ni (ms c))) 163 46 0) 163 35 0) o k = I3 o k := fun o k e1 e2 e3 => by rw [am_u_nq (by omega), am_u_nq (by omega), am_u_nq (by omega), v2 _ _ e2, u2 _ _ e1, yF _ _ (by omega)]
    have G65 : (am_u (am_u (am_u I6 163 34 (ni (ms c))) 163 46 0) 163 35 0) 163 65 = ni c := by rw [am_u_nq (by omega), am_u_nq (by omega)]; exact w65
    have G0 : (am_u (am_u (am_u I6 163 34 (ni (ms c))) 163 46 0) 163 35 0) 163 0 = 0 := by rw [am_u_nq (by omega), am_u_nq (by omega), am_u_nq (by omega), v2 _ _ (by omega), u2 _ _ (by omega)]; exact y0
    have G34 : (am_u (am_u (am_u I6 163 34 (ni (ms c))) 163 46 0) 163 35 0) 163 34 = ni (ms c) := by rw [am_u_nq (by omega), am_u_nq (by omega)]; exact am_u_same
    have G35 : (am_u (am_u (am_u I6 163 34 (ni (ms c))) 163 46 0) 163 35 0) 163 35 = 0 := am_u_same
    have G46 : (am_u (am_u (am_u I6 163 34 (ni (ms c))) 163 46 0) 163 35 0) 163 46 = 0 := by rw [am_u_nq (by omega)]; exact am_u_same
    have GT : ∀ k, k < 25 → (am_u (am_u (am_u I6 163 34 (ni (ms c))) 163 46 0) 163 35 0) 180 k = I 201 (426 * c + k) := fun k hk => by rw [am_u_nq (by omega), am_u_nq (by omega), am_u_nq (by omega), v2 _ _ (by omega), u1 k hk, t201'']
    have GP : ∀ k, k < 400 → (am_u (am_u (am_u I6 163 34 (ni (ms c))) 163 46 0) 163 35 0) 182 k = I 201 (426 * c + 25 + k) := fun k hk => by rw [am_u_nq (by omega), am_u_nq (by omega), am_u_nq (by omega), v1 k hk, t201']
    generalize am_u (am_u (am_u I6 163 34 (ni (ms c))) 163 46 0) 163 35 0 = I7 at G G65 G0 G34 G35 G46 GT GP ⊢
    have gg : ∀ o k, ¬ (108 ≤ o ∧ o ≤ 110) → ¬ (o = 135 ∧ k = 1) → o ≠ 136 → ¬ (o = 0 ∧ (k = 9 ∨ k = 12 ∨ k = 16)) → o ≠ 180 → o ≠ 182 → ¬ (o = 163 ∧ (k = 0 ∨ k = 34 ∨ k = 35 ∨ k = 46 ∨ k = 65)) → I7 o k = I o k := fun o k e1 e2 e3 e4 e5 e6 e7 => by rw [G o k e5 e6 e7, f3 o k e1 e2 e3 e4]
    have l0 := nT.1
    have hTx : rTx 180 I7 (q c (ms c)) := ⟨by rw [GT 0 (by omega)]; exact i1, l0, fun i hi => by rw [GT _ (by omega), show 426 * c + (1 + i) = 426 * c + 1 + i by omega]; exact i2 i hi⟩
    refine kk2 I7 ⟨r, la, w, q c (ms c), q c, ms c, q, c, ms, L, h1, h2, h3, h4.new hr h2 ⟨by rw [G _ _ (by omega) (by omega) (by omega)]; exact fT.1, fT.2.1, fun i hi => by rw [G _ _ (by omega) (by omega) (by omega)]; exact fT.2.2 i hi⟩ nT (fun k => gg _ _ (by omega) (by omega) (by omega) (by omega) (by omega) (by omega) (by omega)) rfl (fun o k a b => gg o k (by omega) (by omega) (by omega) (by omega) (by omega) (by omega) (by omega)) (fun _ _ => rfl) (by rw [G _ _ (by omega) (by omega) (by omega)]; exact f12), h5.new hTx nT (fun o k e => gg o k (by omega) (by omega) (by omega) (by omega) (by omega) (by omega) (by omega)) G46, h6.of (fun o k a b => gg o k (by omega) (by omega) (by omega) (by omega) (by omega) (by omega) (by omega)), ?_, ⟨⟨n16, fun k hk => nq k (by omega), fS.of (fun o k a b => G o k (by omega) (by omega) (by omega)), G34, fun k hk => ?_⟩, by omega, fun j hj => hq j (by omega), ⟨by rw [G _ _ (by omega) (by omega) (by omega)]; exact f9, fun j hj => (hc1 j (by omega)).of (fun o k a b => gg o k (by omega) (by omega) (by omega) (by omega) (by omega) (by omega) (by omega))⟩, G65, fun j hj => (hr1 j (by omega)).of (fun k => gg _ _ (by omega) (by omega) (by omega) (by omega) (by omega) (by omega) (by omega))⟩, h9.of hla (fun o k e => gg o k (by omega) (by omega) (by omega) (by omega) (by omega) (by omega) (by omega))⟩ G0
    · obtain ⟨y1, y2, y3, y4, y5, y6, y7, tp, y8, y9, y10⟩ := h7
      have g : ∀ o k, ((o = 0 ∧ (k = 15 ∨ k = 18 ∨ k = 19)) ∨ o = 1 ∨ o = 2 ∨ o = 164 ∨ o = 165 ∨ (o = 163 ∧ (k = 2 ∨ k = 8 ∨ k = 10))) → I7 o k = I o k := fun o k e => gg o k (by omega) (by omega) (by omega) (by omega) (by omega) (by omega) (by omega)
      refine ⟨by rw [g _ _ (by omega), g _ _ (by omega)]; exact y1, by rw [G35, G _ _ (by omega) (by omega) (by omega)]; exact f16, by rw [g _ _ (by omega), g _ _ (by omega)]; exact y3, by rw [g _ _ (by omega), g _ _ (by omega)]; exact y4, by rw [g _ _ (by omega), g _ _ (by omega)]; exact y5, ?_, fun k => by rw [g _ _ (by omega)]; exact y7 k, tp, y8, by rw [g _ _ (by omega)]; exact y9, by rw [g _ _ (by omega)]; exact y10⟩
      funext k
      rw [g _ _ (by omega), g _ _ (by omega), y6]
    · obtain ⟨t1, t2⟩ := i3 k hk
      have l1 := (nq k (by omega)).1
      exact ⟨by rw [GP _ (by omega)]; exact t1, fun i hi => by rw [GP _ (by omega), show 426 * c + 25 + (25 * k + 1 + i) = 426 * c + 25 + 25 * k + 1 + i by omega]; exact t2 i hi⟩
