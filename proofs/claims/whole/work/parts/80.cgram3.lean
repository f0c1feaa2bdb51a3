/-! The class: quotes, sets, a clause -/
section CG3
variable {d : Nat} {P : am_O → Prop} {J : am_J} {Pf : am_R} {n r : Nat} {I : am_I} {a : Nat}
theorem sc_quote (hp : am_PF Pf) (h30 : Pf 3 0 = some 1) (h31 : Pf 3 1 = some r) (hr : r = 16 ∨ r = 55) {k : Nat} {w : Nat → Int32} (hk : k < 4) (h : RD I n a) (h5 : I 1 5 = 0) (hrk : I r 9 = ni k)
    (kk : rm2 (mQuote (I 2) n w k a) (fun z => ∀ I', RD I' n z.2 → cGq r I' z.1 k → I' r 9 = ni (k + 1) → (∀ o k', ¬ (o = 1 ∧ (k' = 3 ∨ k' = 7 ∨ k' = 8 ∨ k' = 9)) → ¬ (o = r ∧ k' = 9) → o ≠ 7 → ¬ ((o = r + 8 ∨ o = r + 9) ∧ k' = k) → ¬ (o = r + 10 ∧ 3 * k ≤ k' ∧ k' < 3 * k + 3) → I' o k' = I o k') → P (.inl (some (.int 1)), (am_SH, I', J, Pf), 0, 0)) (fun kd pl => cKf r n P Pf I J kd pl)) :
    am_mth (d + 5) 35 [.ref 3] (am_SH, I, J, Pf) P := by
  have hO := cO_le hr
  have hn := h.2.2.2
  unfold mQuote at kk
  refine am_mth_of rfl rfl (v35_0 hp (sc_sort (r := r) (d := d + 1) hp h30 h h5 ?_))
  cases hm : mNum (I 2) n 8 a with
  | inl e =>
    rw [hm] at kk
    intro I' hF hpl
    refine am_back (v35_4 hp ?_)
    rw [if_pos rfl]
    exact (kk hpl).1 _ _ hF
  | inr z =>
    rw [hm] at kk
    have hz8 := (mNum_lt hm).2
    dsimp only [rb] at kk
    intro I1 hR1 hf1 _ _
    refine am_back (v35_4 hp ?_)
    rw [if_neg (ni_neg1 (by omega))]
    have eb1 : I1 2 = I 2 := by funext k'; exact hf1 _ _ (by omega)
    refine sc_sort (r := r) (d := d + 1) hp h30 hR1 (by rw [hf1 _ _ (by omega)]; exact h5) ?_
    rw [eb1]
    cases hm2 : mNum (I 2) n 8 z.2 with
    | inl e =>
      rw [hm2] at kk
      intro I' hF hpl
      refine am_back (v35_16 hp ?_)
      rw [if_pos rfl]
      exact (kk hpl).1 _ _ (cFF.after hf1.fr cJr.rfl' hF)
    | inr y =>
      rw [hm2] at kk
      have hy8 := (mNum_lt hm2).2
      dsimp only [rb] at kk
      intro I2 hR2 hf2' _ _
      have hf2 := hf1.trans hf2'
      refine am_back (v35_16 hp ?_)
      rw [if_neg (ni_neg1 (by omega))]
      refine ⟨h30, ?_⟩
      have eb2 : I2 2 = I 2 := by funext k'; exact hf2 _ _ (by omega)
      have m5 : I2 1 5 = 0 := by rw [hf2 _ _ (by omega)]; exact h5
      rw [ni_0]
      refine sc_word (r := r) (d := d) (o := 7) (q := 0) (L := 8) hp hR2 m5 rfl (by omega) (by omega) (by omega) (by omega) (by omega) ?_
      rw [eb2]
      cases hm3 : mWord (I 2) n y.2 with
      | inl e =>
        rw [hm3] at kk
        intro I' hF hpl
        refine am_back (v35_36 hp ?_)
        rw [if_pos rfl]
        exact (kk hpl).1 _ _ (cFF.after hf2.fr cJr.rfl' hF)
      | inr x =>
        rw [hm3] at kk
        have hw := mWord_le hm3
        dsimp only [rb] at kk
        refine ⟨fun hl8 hR3 => ?_, fun hl8 I' hF hpl => ?_⟩
        · refine am_back (v35_36 hp ?_)
          rw [if_neg (ni_neg1 (by omega))]
          have l3 : (ni x.1.length = 3) ↔ x.1.length = 3 := leq 3 (by omega) (by omega)
          -- the state behind the word
          have gI : ∀ o k', ¬ (o = 1 ∧ (k' = 3 ∨ k' = 7 ∨ k' = 8 ∨ k' = 9)) → o ≠ 7 → am_rw (am_u (am_u I2 1 9 (ni x.2.1)) 1 3 (ni (x.2.2 + 1))) 7 (wrow (I2 7) 0 x.1) o k' = I o k' := fun o k' e1 e2 => by rw [am_rw_o e2, am_u_nq (by omega), am_u_nq (by omega)]; exact hf2 o k' e1
          have g19 : am_rw (am_u (am_u I2 1 9 (ni x.2.1)) 1 3 (ni (x.2.2 + 1))) 7 (wrow (I2 7) 0 x.1) 1 9 = ni x.2.1 := by rw [am_rw_o (by omega), am_u_nq (by omega), am_u_same]
          have g13 : am_rw (am_u (am_u I2 1 9 (ni x.2.1)) 1 3 (ni (x.2.2 + 1))) 7 (wrow (I2 7) 0 x.1) 1 3 = ni (x.2.2 + 1) := by rw [am_rw_o (by omega), am_u_same]
          have g7 : x.1.length = 3 → ∀ i, i < 3 → am_rw (am_u (am_u I2 1 9 (ni x.2.1)) 1 3 (ni (x.2.2 + 1))) 7 (wrow (I2 7) 0 x.1) 7 i = x.1.getD i 0 := by
            intro hl i hi
            rw [am_rw_s]
            unfold wrow
            rw [if_pos (by omega), Nat.sub_zero]
          generalize am_rw (am_u (am_u I2 1 9 (ni x.2.1)) 1 3 (ni (x.2.2 + 1))) 7 (wrow (I2 7) 0 x.1) = I3 at *
          have gB : cBf r I I3 := fun o k' e1 e2 e3 => gI o k' e1 (by omega)
          have n5 : I3 1 5 = 0 := by rw [gI _ _ (by omega) (by omega)]; exact h5
          by_cases c3 : x.1.length = 3
          · rw [if_pos c3] at kk
            rw [if_pos (l3.mpr c3), g7 c3 0 (by omega), g7 c3 1 (by omega), g7 c3 2 (by omega)]
            have dup : (x.1.getD 2 0 = x.1.getD 0 0 ∨ x.1.getD 2 0 = x.1.getD 1 0) → ∀ l1 l2 l3 l4 l5 : Option Value, am_go none (d + 4) 35 (97, [some (.ref 3), l1, l2, l3, l4, l5], [], (am_SH, I3, J, Pf), 0, 0) P := by
              intro hc l1 l2 l3 l4 l5
              rw [if_pos hc] at kk
              refine v35_97 hp ⟨h30, ?_⟩
              rw [if_pos n5, g19]
              exact (kk (by show x.2.1 ≤ 600; omega)).1 _ _ (cFF.set gB.fr cJr.rfl')
            by_cases d1 : x.1.getD 2 0 = x.1.getD 0 0
            · rw [if_pos d1]; exact dup (Or.inl d1) _ _ _ _ _
            · by_cases d2 : x.1.getD 2 0 = x.1.getD 1 0
              · rw [if_neg d1, if_pos d2]; exact dup (Or.inr d2) _ _ _ _ _
              · rw [if_neg d1, if_neg d2]
                rw [if_neg (by rintro (z | z); exact d1 z; exact d2 z)] at kk
                have e9 : I3 r 9 = ni k := by rw [gI _ _ (by omega) (by omega)]; exact hrk
                refine ⟨r, h31, rul_sh hr, by rw [e9]; exact ni_in (by omega) hk, by rw [e9]; exact ni_in (by omega) hk, ?_⟩
                rw [e9, ni_nat (by omega)]
                -- three signs laid
                have st : ∀ (M : am_I) (i : Nat), i < 3 → M 7 i = x.1.getD i 0 → ∀ l1 l2 l3 : Option Value, am_go none (d + 4) 35 (147, [some (.ref 3), l1, l2, l3, some (.int (ni k)), some (.int (ni (i + 1)))], [], (am_SH, am_u M (r + 10) (3 * k + i) (x.1.getD i 0), J, Pf), 0, 0) P → am_go none (d + 4) 35 (147, [some (.ref 3), l1, l2, l3, some (.int (ni k)), some (.int (ni i))], [], (am_SH, M, J, Pf), 0, 0) P := by
                  intro M i hi hM l1 l2 l3 kk
                  refine v35_147 hp ?_
                  rw [if_neg (fun z => absurd ((gle 3 (by omega) (by omega)).mp z) (by omega))]
                  refine ⟨r, h31, rul_sh hr, ni_in (by omega) (by omega), ?_⟩
                  rw [show ni k * 3 + ni i = ni (3 * k + i) from by rw [show (3 : Int32) = ni 3 from rfl, ni_mul, ni_add, Nat.mul_comm], ni_nat (by omega), ni_nat (by omega), hM, ni_p1]
                  exact ⟨ni_in (by omega) (by omega), kk⟩
                have g70 := g7 c3 0 (by omega)
                have g71 := g7 c3 1 (by omega)
                have g72 := g7 c3 2 (by omega)
                refine st _ 0 (by omega) (by rw [am_u_nq (by omega), am_u_nq (by omega)]; exact g70) _ _ _ (st _ 1 (by omega) (by rw [am_u_nq (by omega), am_u_nq (by omega), am_u_nq (by omega)]; exact g71) _ _ _ (st _ 2 (by omega) (by rw [am_u_nq (by omega), am_u_nq (by omega), am_u_nq (by omega), am_u_nq (by omega)]; exact g72) _ _ _ ?_))
                refine v35_147 hp ?_
                rw [if_pos (by decide)]
                refine ⟨r, h31, rul_sh hr, ?_⟩
                have hI4 : ∀ o k', ¬ ((o = r + 8 ∨ o = r + 9) ∧ k' = k) → ¬ (o = r + 10 ∧ 3 * k ≤ k' ∧ k' < 3 * k + 3) → am_u (am_u (am_u (am_u (am_u I3 (r + 8) k (ni z.1)) (r + 9) k (ni y.1)) (r + 10) (3 * k + 0) (x.1.getD 0 0)) (r + 10) (3 * k + 1) (x.1.getD 1 0)) (r + 10) (3 * k + 2) (x.1.getD 2 0) o k' = I3 o k' := fun o k' e1 e2 => by rw [am_u_nq (by omega), am_u_nq (by omega), am_u_nq (by omega), am_u_nq (by omega), am_u_nq (by omega)]
                refine kk _ ?_ ⟨?_, ?_, fun i hi => ?_⟩ ?_ (fun o k' f1 f2 f3 f4 f5 => ?_)
                · exact hR3.cr (fun _ e => by rw [am_u_nq (by omega), hI4 _ _ (by omega) (by omega)]) hR3.2.2.1 (by rw [am_u_nq (by omega), hI4 _ _ (by omega) (by omega)]; exact g13)
                · dsimp only
                  rw [am_u_nq (by omega), am_u_nq (by omega), am_u_nq (by omega), am_u_nq (by omega), am_u_nq (by omega), am_u_same, fu_n (by omega), fu_n (by omega), fu_n (by omega), fu_n (by omega), fu_s]
                · dsimp only
                  rw [am_u_nq (by omega), am_u_nq (by omega), am_u_nq (by omega), am_u_nq (by omega), am_u_same, fu_n (by omega), fu_n (by omega), fu_n (by omega), fu_s]
                · dsimp only
                  have : i = 0 ∨ i = 1 ∨ i = 2 := by omega
                  rcases this with rfl | rfl | rfl
                  · rw [am_u_nq (by omega), am_u_nq (by omega), am_u_nq (by omega), am_u_same, fu_n (by omega), fu_n (by omega), fu_s]
                  · rw [am_u_nq (by omega), am_u_nq (by omega), am_u_same, fu_n (by omega), fu_s]
                  · rw [am_u_nq (by omega), am_u_same, fu_s]
                · rw [am_u_same, hI4 _ _ (by omega) (by omega), e9, ni_p1]
                · rw [am_u_nq (by omega), hI4 _ _ (by omega) (by omega)]
                  exact gI o k' f1 f3
          · rw [if_neg c3] at kk
            rw [if_neg (fun z => c3 (l3.mp z))]
            refine ⟨h30, ?_⟩
            rw [if_pos n5, g13, show ni (x.2.2 + 1) - 1 = ni (x.2.2 + 1 - 1) from ni_sub (b := 1) (by omega), Nat.add_sub_cancel]
            exact (kk (by show x.2.2 ≤ 600; omega)).1 _ _ (cFF.set gB.fr cJr.rfl')
        · refine am_back (v35_36 hp ?_)
          rw [if_pos rfl]
          rw [if_neg (by omega)] at kk
          exact (kk (by show x.2.2 ≤ 600; omega)).1 _ _ (cFF.after hf2.fr cJr.rfl' hF)
/-- a class told and laid down -/
theorem sc_addClass (hp : am_PF Pf) (h31 : Pf 3 1 = some r) (hr : r = 16 ∨ r = 55) {k : Nat} (hk : k < 8) (hrk : I r 1 = ni k) (hT : sgT J 8)
    (kk : ∀ J', sgS J J' (cO r + k) (sgD J 8) → P (.inl (some (.int 1)), (am_SH, am_u I r 1 (ni (k + 1)), J', Pf), 0, 0)) : am_mth (d + 2) 28 [.ref 3] (am_SH, I, J, Pf) P := by
  obtain ⟨k1, k2⟩ := cls_obj hp hr hk
  obtain ⟨s1, s2⟩ := set_obj hp (s := 0) (by omega)
  refine am_mth_of rfl rfl (v28_0 hp ⟨r, h31, rul_sh hr, by rw [hrk]; exact ni_in (by omega) hk, cO r + k, by rw [hrk, ni_nat (by omega)]; exact k1, k2, 8, s1, s2, sg_copy hp k2 s2 hT (fun J' hJ => am_back (v28_24 hp ⟨r, h31, rul_sh hr, ?_⟩))⟩)
  rw [hrk, ni_p1]
  exact kk J' hJ
/-- the kind of a clause -/
theorem sc_kind (hp : am_PF Pf) (h30 : Pf 3 0 = some 1) {q e : Nat} (h : RD I n e) (h7 : I 1 7 = ni q) (hq : q ≤ e) (kk : P (.inl (some (.int (ni (kdN (I 2) q e)))), (am_SH, I, J, Pf), 0, 0)) : am_mth (d + 6) 24 [.ref 3] (am_SH, I, J, Pf) P := by
  unfold kdN at kk
  refine am_mth_of rfl rfl (v24_0 hp ⟨h30, sp_rd_isNamed (d := d) hp h h7 hq rfl (am_back (v24_9 hp ?_))⟩)
  by_cases c : nmB (I 2) q e (am_sb 0) = true
  · rw [if_pos c] at kk; rw [show nmB (I 2) q e (am_sb (2 - 2)) = true from c, if_neg (by decide)]; exact kk
  rw [if_neg c] at kk; rw [show nmB (I 2) q e (am_sb (2 - 2)) = false from (Bool.not_eq_true _).mp c, if_pos (show b2 false = 0 from rfl)]
  refine ⟨h30, sp_rd_isNamed (d := d) hp h h7 hq rfl (am_back (v24_23 hp ?_))⟩
  by_cases c : nmB (I 2) q e (am_sb 1) = true
  · rw [if_pos c] at kk; rw [show nmB (I 2) q e (am_sb (3 - 2)) = true from c, if_neg (by decide)]; exact kk
  rw [if_neg c] at kk; rw [show nmB (I 2) q e (am_sb (3 - 2)) = false from (Bool.not_eq_true _).mp c, if_pos (show b2 false = 0 from rfl)]
  refine ⟨h30, sp_rd_isNamed (d := d) hp h h7 hq rfl (am_back (v24_37 hp ?_))⟩
  by_cases c : nmB (I 2) q e (am_sb 2) = true
  · rw [if_pos c] at kk; rw [show nmB (I 2) q e (am_sb (4 - 2)) = true from c, if_neg (by decide)]; exact kk
  rw [if_neg c] at kk; rw [show nmB (I 2) q e (am_sb (4 - 2)) = false from (Bool.not_eq_true _).mp c, if_pos (show b2 false = 0 from rfl)]
  refine ⟨h30, sp_rd_isNamed (d := d) hp h h7 hq rfl (am_back (v24_51 hp ?_))⟩
  by_cases c : nmB (I 2) q e (am_sb 3) = true
  · rw [if_pos c] at kk; rw [show nmB (I 2) q e (am_sb (5 - 2)) = true from c, if_neg (by decide)]; exact kk
  rw [if_neg c] at kk; rw [show nmB (I 2) q e (am_sb (5 - 2)) = false from (Bool.not_eq_true _).mp c, if_pos (show b2 false = 0 from rfl)]
  refine ⟨h30, sp_rd_isNamed (d := d) hp h h7 hq rfl (am_back (v24_65 hp ?_))⟩
  by_cases c : nmB (I 2) q e (am_sb 4) = true
  · rw [if_pos c] at kk; rw [show nmB (I 2) q e (am_sb (6 - 2)) = true from c, if_neg (by decide)]; exact kk
  rw [if_neg c] at kk; rw [show nmB (I 2) q e (am_sb (6 - 2)) = false from (Bool.not_eq_true _).mp c, if_pos (show b2 false = 0 from rfl)]
  refine ⟨h30, sp_rd_isNamed (d := d) hp h h7 hq rfl (am_back (v24_79 hp ?_))⟩
  by_cases c : nmB (I 2) q e (am_sb 5) = true
  · rw [if_pos c] at kk; rw [show nmB (I 2) q e (am_sb (7 - 2)) = true from c, if_neg (by decide)]; exact kk
  rw [if_neg c] at kk; rw [show nmB (I 2) q e (am_sb (7 - 2)) = false from (Bool.not_eq_true _).mp c, if_pos (show b2 false = 0 from rfl)]
  refine ⟨h30, sp_rd_isNamed (d := d) hp h h7 hq rfl (am_back (v24_94 hp ?_))⟩
  by_cases c : nmB (I 2) q e (am_sb 6) = true
  · rw [if_pos c] at kk; rw [show nmB (I 2) q e (am_sb (8 - 2)) = true from c, if_neg (by decide)]; exact kk
  rw [if_neg c] at kk; rw [show nmB (I 2) q e (am_sb (8 - 2)) = false from (Bool.not_eq_true _).mp c, if_pos (show b2 false = 0 from rfl)]
  exact kk
end CG3
