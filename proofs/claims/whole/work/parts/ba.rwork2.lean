/-! WORK: the reference reads agains; all steps -/
section RWL
variable {b : Nat → Int32} {n : Nat} {Pf : am_R}
theorem RM.of4 {I I' : am_I} {a : Nat} (h : RM I b n a) (e : ∀ k, I' 165 k = I 165 k) (e3 : I' 163 3 = I 163 3) (e4 : I' 163 4 = I 163 4) : RM I' b n a := ⟨by rw [← h.1]; funext k; exact e k, by rw [e3]; exact h.2.1, by rw [e4]; exact h.2.2.1, h.2.2.2⟩
theorem rAGQ_0 (hp : am_PF Pf) : rAGQ Pf b n 0 := by
  intro D P I J a u hD h ha h5 h7 h33 h3 hst kk
  obtain ⟨D', rfl⟩ : ∃ D', D = D' + 10 := ⟨D - 10, by omega⟩
  have hn := h.2.2.2.2
  have hq := rsk_le (b := b) ha
  have hm : mSt b n 0 a = .inl (3, rsk b n a) := by
    unfold mSt
    rw [if_neg (by omega), if_pos hst]
  rw [hm] at kk
  have p4 := h.2.2.1
  refine am_mth_of rfl rfl (v245_0 hp ?_)
  rw [if_pos h5, h7, if_pos (show ni (6 - 0) = (6 : Int32) from by decide), p4, if_neg (ni_neg1 (by omega)), ni_p1]
  have F0 : rFF I (am_u (am_u (am_u I 163 5 (ni (rsk b n a))) 163 6 3) 163 7 (ni (6 - 0 + 1))) 3 (rsk b n a) := ⟨by rw [am_u_nq (by omega), am_u_nq (by omega)]; exact am_u_same, by rw [am_u_nq (by omega)]; exact am_u_same, fun o k e => by
    have e' : ¬ (o = 163 ∧ (k = 5 ∨ k = 6 ∨ k = 7)) := fun z => e (by unfold rSc; omega)
    rw [am_u_nq (by omega), am_u_nq (by omega), am_u_nq (by omega)]⟩
  generalize am_u (am_u (am_u I 163 5 (ni (rsk b n a))) 163 6 3) 163 7 (ni (6 - 0 + 1)) = I1 at F0 ⊢
  have qb := F0.bad (by omega)
  refine sr_num_nf (d := D' + 6) hp qb (am_back (v245_12 hp ?_))
  refine sr_need_nf (d := D' + 6) hp qb (am_back (v245_19 hp ?_))
  refine sr_tells_nf (d := D' + 7) hp qb (am_back (v245_31 hp ?_))
  rw [if_neg qb]
  refine v245_54 hp (sr_need_nf (d := D' + 6) hp qb (am_back (v245_60 hp ?_)))
  rw [if_neg qb]
  exact kk _ ⟨by rw [am_u_nq (by omega)]; exact F0.1, by rw [am_u_nq (by omega)]; exact F0.2.1, fun o k e => by
    have e' : ¬ (o = 163 ∧ k = 7) := fun z => e (by unfold rSc; omega)
    rw [am_u_nq e']; exact F0.2.2 o k e⟩ (by show rsk b n a ≤ 600; omega)
/-- steps within an again, and the bracket behind them -/
theorem sr_list (hp : am_PF Pf) (hn : n ≤ 150) {d : Nat} (hS : rSTQ Pf b n d) {D : Nat} (hD : 20 + 3 * d ≤ D) {P : am_O → Prop} {J : am_J} {l1 : Option Value} {x2 : Int32} : ∀ (G a u : Nat) (I : am_I), n - a < G → RM I b n a → I 163 5 = -1 → I 163 7 = ni (6 - d) → I 163 33 = ni (12 * u) → 3 * u ≤ a →
  rm2 (rb (mStL b n (mSt b n d) G a) (fun y => rb (mTake b n 93 y.2) (fun f => .inr (y.1, f))) : (Nat × Nat) ⊕ (List (ST d) × Nat)) (fun z => ∀ I', RM I' b n z.2 → I' 163 5 = -1 → rSs u I I' → I' 163 33 = ni (12 * (u + szL (rsz d) z.1)) → layL (rLa (I' 178) d) (rsz d) u z.1 → am_go none D 245 (60, [some (.ref 163), l1, some (.int x2)], [], (am_SH, I', J, Pf), 0, 0) P) (fun kd pl => ∀ I', rFF I I' kd pl → pl ≤ 600 → am_go none D 245 (60, [some (.ref 163), l1, some (.int x2)], [], (am_SH, I', J, Pf), 0, 0) P) →
  am_go none D 245 (31, [some (.ref 163), l1, some (.int x2)], [], (am_SH, I, J, Pf), 0, 0) P := by
  obtain ⟨D', rfl⟩ : ∃ D', D = D' + 10 := ⟨D - 10, by omega⟩
  -- behind a fault
  have BAD : ∀ (I I' : am_I) (kd pl : Nat), rFF I I' kd pl → pl ≤ 600 → (∀ I', rFF I I' kd pl → pl ≤ 600 → am_go none (D' + 10) 245 (60, [some (.ref 163), l1, some (.int x2)], [], (am_SH, I', J, Pf), 0, 0) P) → am_go none (D' + 10) 245 (31, [some (.ref 163), l1, some (.int x2)], [], (am_SH, I', J, Pf), 0, 0) P := by
    intro I I' kd pl q1 q2 kk
    have qb := q1.bad (by omega)
    refine v245_31 hp ?_
    rw [if_neg qb]
    exact v245_54 hp (sr_need_nf (d := D' + 7) hp qb (am_back (kk I' q1 q2)))
  intro G
  induction G with
  | zero => intro a u I hG; omega
  | succ G ih =>
    intro a u I hG h h5 h7 h33 h3 kk
    have ha := h.2.2.2.1
    have hq := rsk_le (b := b) ha
    have hqq := rsk_rsk (b := b) ha
    refine v245_31 hp ?_
    rw [if_pos h5]
    refine sr_here (d := D' + 9) hp h (am_back (v245_42 hp ?_))
    have R1 : RM (am_u I 163 4 (ni (rsk b n a))) b n (rsk b n a) := h.at hq.2
    have f1 : rSs u I (am_u I 163 4 (ni (rsk b n a))) := rSs.at
    have f1' : ∀ o k, ¬ (o = 163 ∧ k = 4) → (am_u I 163 4 (ni (rsk b n a))) o k = I o k := fun o k e => am_u_nq e
    generalize am_u I 163 4 (ni (rsk b n a)) = I1 at R1 f1 f1' ⊢
    have p5 : I1 163 5 = -1 := by rw [f1' _ _ (by omega)]; exact h5
    have p7 : I1 163 7 = ni (6 - d) := by rw [f1' _ _ (by omega)]; exact h7
    have p33 : I1 163 33 = ni (12 * u) := by rw [f1' _ _ (by omega)]; exact h33
    unfold mStL at kk
    by_cases c93 : hz b n (rsk b n a) = 93
    · have c1 := hz_0 c93 (by decide)
      have hb93 : b (rsk b n a) = 93 := by unfold hz at c93; rwa [if_pos c1] at c93
      rw [if_neg (fun z => z.2 hb93)] at kk
      rw [if_pos c93]
      refine v245_54 hp (sr_need (d := D' + 7) hp (by decide) R1 p5 ?_)
      dsimp only [rb] at kk
      cases ht : mTake b n 93 (rsk b n a) with
      | inl f =>
        rw [ht] at kk
        exact fun I' q1 q2 => am_back (kk I' (q1.after f1.fr) q2)
      | inr e =>
        rw [ht] at kk
        exact fun q1 => am_back (kk _ q1 ((am_u_nq (by omega)).trans p5) (f1.trans rSs.at) ((am_u_nq (by omega)).trans p33) trivial)
    · rw [if_neg c93]
      refine hS (D' + 10) _ I1 J (rsk b n a) u (by omega) R1 p5 p7 p33 (by omega) ?_
      have e9 : mSt9 b n d (rsk b n a) = mSt9 b n d a := by unfold mSt9; rw [mSt_rsk ha]
      rw [e9]
      by_cases c1 : rsk b n a < n
      · have hb93 : b (rsk b n a) ≠ 93 := fun z => c93 (by unfold hz; rw [if_pos c1]; exact z)
        rw [if_pos ⟨c1, hb93⟩] at kk
        unfold mSt9
        cases hm : mSt b n d a with
        | inl f =>
          rw [hm] at kk
          exact fun I' q1 q2 => am_back (v245_51 hp (BAD I I' f.1 f.2 (q1.after f1.fr) q2 kk))
        | inr z =>
          rw [hm] at kk
          dsimp only [rb] at kk ⊢
          obtain ⟨o1, o2, o3⟩ := mSt_ok d a z ha hm
          cases ht : mTake b n 59 z.2 with
          | inl f =>
            rw [ht] at kk
            exact fun I' q1 q2 => am_back (v245_51 hp (BAD I I' f.1 f.2 (q1.after f1.fr) q2 kk))
          | inr e =>
            rw [ht] at kk
            dsimp only at kk ⊢
            have t1 := mTake_lt ht
            intro I2 q1 q2 q3 q4
            have g2 : rSs u I I2 := f1.trans q2
            have hr := rsz_le d z.1
            refine am_back (v245_51 hp (ih e (u + rsz d z.1) I2 (by omega) q1 (by rw [q2 _ _ (by omega) (by omega) (by omega)]; exact p5) (by rw [q2 _ _ (by omega) (by omega) (by omega)]; exact p7) q3 (by omega) ?_))
            cases hl : mStL b n (mSt b n d) G e with
            | inl f =>
              rw [hl] at kk
              exact fun I' m1 m2 => kk I' (m1.after g2.fr) m2
            | inr y =>
              rw [hl] at kk
              dsimp only [rb] at kk ⊢
              cases hk : mTake b n 93 y.2 with
              | inl f =>
                rw [hk] at kk
                exact fun I' m1 m2 => kk I' (m1.after g2.fr) m2
              | inr f =>
                rw [hk] at kk
                intro I' m1 m2 m3 m4 m5
                refine kk I' m1 m2 (g2.trans (m3.up (by omega))) ?_ ⟨rLa_ss o1 q4 m3 (Nat.le_refl _), m5⟩
                rw [m4]
                show ni (12 * (u + rsz d z.1 + szL (rsz d) y.1)) = ni (12 * (u + (rsz d z.1 + szL (rsz d) y.1)))
                congr 1
                omega
      · rw [if_neg (fun z => c1 z.1)] at kk
        have hen : rsk b n a = n := by omega
        have hNn : mNE b n a = n := by
          have := mNE_le (b := b) ha
          omega
        have c0 : stN b (rsk b n a) (mNE b n a) = 0 := by
          by_cases c : stN b (rsk b n a) (mNE b n a) = 0
          · exact c
          · have := stN_len c; omega
        have hm : mSt b n d a = .inl (1, rsk b n a) := by
          cases d with
          | zero => unfold mSt; rw [if_pos c0]
          | succ d => unfold mSt; rw [if_pos c0]
        have ht : mTake b n 93 (rsk b n a) = .inl (1, rsk b n a) := by
          unfold mTake
          rw [hqq, if_neg c93]
        dsimp only [rb] at kk
        rw [ht] at kk
        unfold mSt9
        rw [hm]
        exact fun I' q1 q2 => am_back (v245_51 hp (BAD I I' 1 (rsk b n a) (q1.after f1.fr) q2 kk))
theorem rAGQ_s (hp : am_PF Pf) (hn : n ≤ 150) {d : Nat} (hd : d < 6) (hS : rSTQ Pf b n d) : rAGQ Pf b n (d + 1) := by
  intro D P I J a u hD h ha h5 h7 h33 h3 hst kk
  obtain ⟨D', rfl⟩ : ∃ D', D = D' + 10 := ⟨D - 10, by omega⟩
  have hq := rsk_le (b := b) ha
  have hne := mNE_le (b := b) ha
  have p4 := h.2.2.1
  have hm : mSt b n (d + 1) a = rb (mNum b n 41 (mNE b n a)) (fun z => rb (mTake b n 91 z.2) (fun p => rb (mStL b n (mSt b n d) (n - p + 1) p) (fun y => rb (mTake b n 93 y.2) (fun f => .inr (sA d z.1 y.1, f))))) := by
    conv => lhs; unfold mSt
    rw [if_neg (by omega), if_pos hst]
  rw [hm] at kk
  have hlen : mNE b n a = rsk b n a + 5 := by
    have k18 : (am_sb 18).length = 5 := by decide +kernel
    have c4 : nmB b (rsk b n a) (mNE b n a) (am_sb 18) = true := by
      by_cases c : nmB b (rsk b n a) (mNE b n a) (am_sb 18) = true
      · exact c
      · exfalso
        unfold stN at hst
        rw [if_neg c] at hst
        split at hst
        · omega
        · split at hst
          · omega
          · split at hst <;> omega
    have := nmB_at c4 (by omega)
    omega
  refine am_mth_of rfl rfl (v245_0 hp ?_)
  rw [if_pos h5, h7, if_neg (fun z => absurd ((leq 6 (by omega) (by omega)).mp z) (by omega)), p4, ni_p1, show 6 - (d + 1) + 1 = 6 - d by omega, show ni (rsk b n a) + 5 = ni (mNE b n a) by rw [hlen]; exact ni_add _ 5, show (40 : Int32) = ni 41 - ni 1 from by decide]
  have R1 : RM (am_u (am_u I 163 4 (ni (mNE b n a))) 163 7 (ni (6 - d))) b n (mNE b n a) := ⟨by rw [← h.1]; funext k; rw [am_u_nq (by omega), am_u_nq (by omega)], by rw [am_u_nq (by omega), am_u_nq (by omega)]; exact h.2.1, by rw [am_u_nq (by omega)]; exact am_u_same, hne.2, h.2.2.2.2⟩
  have f1 : ∀ o k, ¬ (o = 163 ∧ (k = 4 ∨ k = 7)) → (am_u (am_u I 163 4 (ni (mNE b n a))) 163 7 (ni (6 - d))) o k = I o k := fun o k e => by rw [am_u_nq (by omega), am_u_nq (by omega)]
  have p7 : (am_u (am_u I 163 4 (ni (mNE b n a))) 163 7 (ni (6 - d))) 163 7 = ni (6 - d) := am_u_same
  generalize am_u (am_u I 163 4 (ni (mNE b n a))) 163 7 (ni (6 - d)) = I1 at R1 f1 p7 ⊢
  have fr1 : rFr I I1 := fun o k e => f1 o k (fun z => e (by unfold rSc; omega))
  have p5 : I1 163 5 = -1 := by rw [f1 _ _ (by omega)]; exact h5
  have p33 : I1 163 33 = ni (12 * u) := by rw [f1 _ _ (by omega)]; exact h33
  -- the last words, behind a fault
  have END : ∀ (I' : am_I) (kd pl : Nat) (l1 : Option Value) (x2 : Int32), rFF I I' kd pl → pl ≤ 600 → (∀ I', rFF I I' kd pl → pl ≤ 600 → P (.inl none, (am_SH, I', J, Pf), 0, 0)) → am_go none (D' + 9) 245 (60, [some (.ref 163), l1, some (.int x2)], [], (am_SH, I', J, Pf), 0, 0) P := by
    intro I' kd pl l1 x2 q1 q2 kk
    refine v245_60 hp ?_
    rw [if_neg (q1.bad (by omega))]
    exact kk _ ⟨by rw [am_u_nq (by omega)]; exact q1.1, by rw [am_u_nq (by omega)]; exact q1.2.1, fun o k e => by
      have e' : ¬ (o = 163 ∧ k = 7) := fun z => e (by unfold rSc; omega)
      rw [am_u_nq e']; exact q1.2.2 o k e⟩ q2
  have BAD : ∀ (I' : am_I) (kd pl : Nat) (l1 : Option Value) (x2 : Int32), rFF I I' kd pl → pl ≤ 600 → (∀ I', rFF I I' kd pl → pl ≤ 600 → P (.inl none, (am_SH, I', J, Pf), 0, 0)) → am_go none (D' + 9) 245 (31, [some (.ref 163), l1, some (.int x2)], [], (am_SH, I', J, Pf), 0, 0) P := by
    intro I' kd pl l1 x2 q1 q2 kk
    have qb := q1.bad (by omega)
    refine v245_31 hp ?_
    rw [if_neg qb]
    exact v245_54 hp (sr_need_nf (d := D' + 6) hp qb (am_back (END I' kd pl _ _ q1 q2 kk)))
  refine sr_num (d := D' + 6) (lim := 41) hp (by omega) R1 p5 ?_
  cases h1 : mNum b n 41 (mNE b n a) with
  | inl f =>
    rw [h1] at kk
    intro I' q1 q2
    have qb := q1.bad (by omega)
    refine am_back (v245_12 hp (sr_need_nf (d := D' + 6) hp qb (am_back (v245_19 hp (sr_tells_nf (d := D' + 7) hp qb (am_back ?_))))))
    exact BAD I' f.1 f.2 _ _ (q1.after fr1) q2 kk
  | inr y =>
    rw [h1] at kk
    dsimp only [rb] at kk
    obtain ⟨g1, g2, g3⟩ := mNum_ge hne.2 h1
    intro R2 _
    have f2 : ∀ o k, ¬ (o = 163 ∧ (k = 4 ∨ k = 7)) → (am_u I1 163 4 (ni y.2)) o k = I o k := fun o k e => by rw [am_u_nq (by omega)]; exact f1 o k e
    have p72 : (am_u I1 163 4 (ni y.2)) 163 7 = ni (6 - d) := (am_u_nq (by omega)).trans p7
    generalize am_u I1 163 4 (ni y.2) = I2 at R2 f2 p72 ⊢
    have fr2 : rFr I I2 := fun o k e => f2 o k (fun z => e (by unfold rSc; omega))
    have r5 : I2 163 5 = -1 := by rw [f2 _ _ (by omega)]; exact h5
    refine am_back (v245_12 hp (sr_need (d := D' + 6) hp (by decide) R2 r5 ?_))
    cases h2 : mTake b n 91 y.2 with
    | inl f =>
      rw [h2] at kk
      intro I' q1 q2
      have qb := q1.bad (by omega)
      refine am_back (v245_19 hp (sr_tells_nf (d := D' + 7) hp qb (am_back ?_)))
      exact BAD I' f.1 f.2 _ _ (q1.after fr2) q2 kk
    | inr pp =>
      rw [h2] at kk
      dsimp only at kk
      have t1 := mTake_lt h2
      have t2 := mTake_le (by decide) h2
      intro R3
      have f3 : ∀ o k, ¬ (o = 163 ∧ (k = 4 ∨ k = 7)) → (am_u I2 163 4 (ni pp)) o k = I o k := fun o k e => by rw [am_u_nq (by omega)]; exact f2 o k e
      have p73 : (am_u I2 163 4 (ni pp)) 163 7 = ni (6 - d) := (am_u_nq (by omega)).trans p72
      generalize am_u I2 163 4 (ni pp) = I3 at R3 f3 p73 ⊢
      have s33 : I3 163 33 = ni (12 * u) := by rw [f3 _ _ (by omega)]; exact h33
      refine am_back (v245_19 hp ?_)
      rw [s33]
      refine sr_tells (d := D' + 7) (k := 3) (m := 0) (u := u) hp (by rw [f3 _ _ (by omega)]; exact h5) s33 (by omega) (by omega) (fun z => absurd z (by omega)) (fun I4 w1 w2 w3 _ w5 w6 => am_back ?_)
      have fr4 : rFr I I4 := fun o k e => by
        rw [w6 o k (fun z => e (by unfold rSc; omega)) (fun z => e (by unfold rSc; omega))]
        exact f3 o k (fun z => e (by unfold rSc; omega))
      have R4 : RM I4 b n pp := R3.of4 (fun k => w6 _ _ (by omega) (by omega)) (w6 _ _ (by omega) (by omega)) (w6 _ _ (by omega) (by omega))
      refine sr_list hp hn hS (D := D' + 9) (by omega) (n - pp + 1) pp (u + 1) I4 (by omega) R4 (by rw [w6 _ _ (by omega) (by omega), f3 _ _ (by omega)]; exact h5) (by rw [w6 _ _ (by omega) (by omega)]; exact p73) w5 (by omega) ?_
      cases hl : mStL b n (mSt b n d) (n - pp + 1) pp with
      | inl f =>
        rw [hl] at kk
        exact fun I' m1 m2 => END I' f.1 f.2 _ _ (m1.after fr4) m2 kk
      | inr x =>
        rw [hl] at kk
        dsimp only [rb] at kk ⊢
        obtain ⟨o1, o2, o3⟩ := mStL_ok (sz := csz d) (ok := stOK d) (fun a z ha hz => mSt_ok d a z ha hz) _ _ _ t2 hl
        have hsz := szL_le (f := rsz d) (g := csz d) x.1 (fun y _ => (rsz_le d y).2)
        cases h8 : mTake b n 93 x.2 with
        | inl f =>
          rw [h8] at kk
          exact fun I' m1 m2 => END I' f.1 f.2 _ _ (m1.after fr4) m2 kk
        | inr f =>
          rw [h8] at kk
          intro I5 m1 m2 m3 m4 m5
          refine v245_60 hp ?_
          have p75 : I5 163 7 = ni (6 - d) := by rw [m3 _ _ (by omega) (by omega) (by omega), w6 _ _ (by omega) (by omega)]; exact p73
          rw [if_pos m2, p75, ni_p2, show (ni (12 * u + 2)).toNatClampNeg = 12 * u + 2 from ni_nat (by omega), m4, show ni (6 - d) - 1 = ni (6 - (d + 1)) from (ni_sub (a := 6 - d) (b := 1) (by omega)).trans (by congr 1)]
          refine ⟨ni_in (by omega) (by omega), kk _ ?_ ?_ (fun o k e1 e2 e3 => ?_) ?_ (rLa_A.mpr ⟨?_, ?_, ?_, ?_⟩)⟩
          · exact m1.of4 (fun k => by rw [am_u_nq (by omega), am_u_nq (by omega)]) (by rw [am_u_nq (by omega), am_u_nq (by omega)]) (by rw [am_u_nq (by omega), am_u_nq (by omega)])
          · rw [am_u_nq (by omega), am_u_nq (by omega)]; exact m2
          · rw [am_u_nq (by omega)]
            by_cases c : o = 163 ∧ k = 7
            · obtain ⟨rfl, rfl⟩ := c
              rw [am_u_same, h7]
            · rw [am_u_nq c, m3 o k e1 e2 (by omega), w6 o k (by omega) e3, f3 o k (by omega)]
          · rw [am_u_nq (by omega), am_u_nq (by omega), m4]
            show ni (12 * (u + 1 + szL (rsz d) x.1)) = ni (12 * (u + rsz (d + 1) (sA d y.1 x.1)))
            rw [rsz_A]
            congr 1
            omega
          · rw [am_u_nq (by omega), am_u_nq (by omega), m3 _ _ (by omega) (by omega) (by omega)]; exact w1
          · rw [am_u_nq (by omega), am_u_nq (by omega), m3 _ _ (by omega) (by omega) (by omega)]; exact w2
          · exact am_u_same
          · exact layL_fr x.1 (u + 1) (fun y q hy e1 e2 hf => rLa_fr d y q (o1 y hy) (fun k j1 j2 => by rw [am_u_nq (by omega), am_u_nq (by omega)]) hf) m5
theorem rSTQ_all (hp : am_PF Pf) (hn : n ≤ 150) : ∀ d, d ≤ 6 → rSTQ Pf b n d := by
  intro d
  induction d with
  | zero => exact fun hd => rSTQ_of hp hn hd (rAGQ_0 hp)
  | succ d ih => exact fun hd => rSTQ_of hp hn hd (rAGQ_s hp hn (by omega) (ih (by omega)))
end RWL
