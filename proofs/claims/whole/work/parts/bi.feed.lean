/-! The tape is fed -/
theorem ash8 (x : Int32) {s : Nat} (hs : s ≤ 24) : (x >>> (ni s &&& 31)) &&& 255 = byt x s := by
  have h31 : ni s &&& 31 = ni s := and31 (by omega)
  unfold byt
  rw [← Int32.toBitVec_inj, Int32.toBitVec_and, Int32.toBitVec_and, h31, Int32.toBitVec_shiftRight]
  have e1 : ((ni s).toBitVec.smod 32).toNat = s := by
    have : (List.range 32).all (fun j => ((ni j).toBitVec.smod 32).toNat == j) = true := by decide +kernel
    exact eq_of_beq (List.all_eq_true.mp this s (List.mem_range.mpr (by omega)))
  have e2 : (UInt32.toInt32 (Int32.toUInt32 x >>> (Int32.toUInt32 (ni s) &&& Int32.toUInt32 31))).toBitVec = x.toBitVec >>> s := by
    show (Int32.toUInt32 x >>> (Int32.toUInt32 (ni s) &&& Int32.toUInt32 31)).toBitVec = _
    rw [UInt32.toBitVec_shiftRight]
    have : (List.range 32).all (fun j => ((Int32.toUInt32 (ni j) &&& Int32.toUInt32 31).toBitVec.umod 32).toNat == j) = true := by decide +kernel
    have h2 := eq_of_beq (List.all_eq_true.mp this s (List.mem_range.mpr (by omega)))
    show x.toBitVec >>> (BitVec.toNat _) = _
    congr 1
  rw [e2]
  show (x.toBitVec.sshiftRight ((ni s).toBitVec.smod 32).toNat) &&& (255 : Int32).toBitVec = _
  rw [e1]
  have em : ∀ i, i < 32 → (255#32 : BitVec 32).getLsbD i = decide (i < 8) := by decide
  have e3 : (255 : Int32).toBitVec = 255#32 := by decide
  refine BitVec.eq_of_getLsbD_eq (fun i hi => ?_)
  rw [e3, BitVec.getLsbD_and, BitVec.getLsbD_and, em i hi]
  by_cases c : i < 8
  · rw [BitVec.getLsbD_sshiftRight, BitVec.getLsbD_ushiftRight, if_pos (by omega), decide_eq_false (show ¬ 32 ≤ i by omega)]
    rfl
  · rw [decide_eq_false c, Bool.and_false, Bool.and_false]
theorem byt_ne {x : Int32} {s : Nat} : byt x s ≠ -1 := by
  unfold byt
  obtain ⟨c, hc, e⟩ := and255 (UInt32.toInt32 (Int32.toUInt32 x >>> (Int32.toUInt32 (ni s) &&& Int32.toUInt32 31)))
  rw [e]
  exact ni_neg1 (by omega)
def fdS (x1 x2 x3 x4 x5 : Int32) (j : Nat) : Int32 := if j < 4 then x1 else if j < 8 then x2 else if j < 12 then x3 else if j < 16 then x4 else x5
def fdB (x1 x2 x3 x4 x5 : Int32) (j : Nat) : Int32 := byt (fdS x1 x2 x3 x4 x5 j) (24 - 8 * (j % 4))
theorem sc_put4 {Pf : am_R} (hp : am_PF Pf) {P : am_O → Prop} {I : am_I} {J : am_J} {d m : Nat} {v : Int32} (h1 : I 1 1 = ni m) (h6 : m + 4 ≤ 600) (kk : ∀ I', (∀ k, ¬ (m ≤ k ∧ k < m + 4) → I' 2 k = I 2 k) → (∀ j, j < 4 → I' 2 (m + j) = byt v (24 - 8 * j)) → I' 1 1 = ni (m + 4) → (∀ o k, o ≠ 2 → ¬ (o = 1 ∧ k = 1) → I' o k = I o k) → P (.inl none, (am_SH, I', J, Pf), 0, 0)) : am_mth (d + 1) 51 [.ref 1, .int v] (am_SH, I, J, Pf) P := by
  refine sp_rd_put hp h1 h6 (kk _ (fun k hk => ?_) (fun j hj => ?_) am_u_same (fun o k e1 e2 => ?_))
  · rw [am_u_nq (by omega), am_u_nq (by omega), am_u_nq (by omega), am_u_nq (by omega), am_u_nq (by omega)]
  · have : j = 0 ∨ j = 1 ∨ j = 2 ∨ j = 3 := by omega
    rcases this with rfl | rfl | rfl | rfl
    · rw [am_u_nq (by omega), am_u_nq (by omega), am_u_nq (by omega), am_u_nq (by omega)]; exact am_u_same
    · rw [am_u_nq (by omega), am_u_nq (by omega), am_u_nq (by omega)]; exact am_u_same
    · rw [am_u_nq (by omega), am_u_nq (by omega)]; exact am_u_same
    · rw [am_u_nq (by omega)]; exact am_u_same
  · rw [am_u_nq (by omega), am_u_nq (by omega), am_u_nq (by omega), am_u_nq (by omega), am_u_nq (by omega)]
theorem pr_feed {I : am_I} {J : am_J} {Pf : am_R} (h : INV I J Pf) (x1 x2 x3 x4 x5 : Int32) : PAIR cd1 140 192 [.int x1, .int x2, .int x3, .int x4, .int x5] I J Pf := by
  obtain ⟨r, la, w, T, p, m, q, c, ms, L, h1, h2, h3, h4, h5, h6, h7, h8, h9⟩ := id h
  obtain ⟨hp, hr, k2, k3, kF, hla, k4, k5⟩ := id h1
  obtain ⟨c1, c2, c3, c4, c5, c6, c7, tp, c8, c9, c10⟩ := id h7
  intro D P hD kk
  obtain ⟨D', rfl⟩ : ∃ D', D = D' + 6 := ⟨D - 6, by omega⟩
  have e20 : ni tp + 20 = ni (tp + 20) := ni_add tp 20
  refine am_mth_of rfl rfl (v140_0 hp ?_)
  rw [c9, e20]
  by_cases ct : tp + 20 ≤ 600
  · rw [if_pos ((lle 600 (by omega) (by omega)).mpr ct)]
    refine sc_put4 (d := D' + 4) hp c9 (by omega) (fun I1 a1 b1 l1 f1 => am_back (v140_26 hp ?_))
    refine sc_put4 (d := D' + 4) hp l1 (by omega) (fun I2 a2 b2 l2 f2 => am_back (v140_34 hp ?_))
    refine sc_put4 (d := D' + 4) hp l2 (by omega) (fun I3 a3 b3 l3 f3 => am_back (v140_42 hp ?_))
    refine sc_put4 (d := D' + 4) hp l3 (by omega) (fun I4 a4 b4 l4 f4 => am_back (v140_51 hp ?_))
    refine sc_put4 (d := D' + 4) hp l4 (by omega) (fun I5 a5 b5 l5 f5 => am_back (v140_60 hp ?_))
    have l5' : I5 1 1 = ni (tp + 20) := l5
    rw [l5']
    have ff : ∀ o k, o ≠ 2 → ¬ (o = 1 ∧ k = 1) → I5 o k = I o k := fun o k e1 e2 => by rw [f5 o k e1 e2, f4 o k e1 e2, f3 o k e1 e2, f2 o k e1 e2, f1 o k e1 e2]
    have fo : ∀ k, ¬ (tp ≤ k ∧ k < tp + 20) → I5 2 k = I 2 k := fun k hk => by rw [a5 k (by omega), a4 k (by omega), a3 k (by omega), a2 k (by omega), a1 k (by omega)]
    have fi : ∀ j, j < 20 → I5 2 (tp + j) = fdB x1 x2 x3 x4 x5 j := by
      intro j hj
      unfold fdB fdS
      by_cases e1 : j < 4
      · rw [if_pos e1, show j % 4 = j by omega, a5 _ (by omega), a4 _ (by omega), a3 _ (by omega), a2 _ (by omega)]
        exact b1 j e1
      rw [if_neg e1]
      by_cases e2 : j < 8
      · rw [if_pos e2, show j % 4 = j - 4 by omega, a5 _ (by omega), a4 _ (by omega), a3 _ (by omega), show tp + j = tp + 4 + (j - 4) by omega]
        exact b2 (j - 4) (by omega)
      rw [if_neg e2]
      by_cases e3 : j < 12
      · rw [if_pos e3, show j % 4 = j - 8 by omega, a5 _ (by omega), a4 _ (by omega), show tp + j = tp + 4 + 4 + (j - 8) by omega]
        exact b3 (j - 8) (by omega)
      rw [if_neg e3]
      by_cases e4 : j < 16
      · rw [if_pos e4, show j % 4 = j - 12 by omega, a5 _ (by omega), show tp + j = tp + 4 + 4 + 4 + (j - 12) by omega]
        exact b4 (j - 12) (by omega)
      · rw [if_neg e4, show j % 4 = j - 16 by omega, show tp + j = tp + 4 + 4 + 4 + 4 + (j - 16) by omega]
        exact b5 (j - 16) (by omega)
    refine kk (.inr (ni (tp + 20))) I5 J Pf (fun E z => by cases z) (fun J2 hJ2 D2 P2 hD2 kk2 => ?_) (fun k => ff _ _ (by omega) (by omega)) rfl
    replace kk2 := fun I2 hi => kk2 I2 (INV.j202 hJ2 hi)
    obtain ⟨D2', rfl⟩ : ∃ D', D2 = D' + 4 := ⟨D2 - 4, by omega⟩
    refine am_mth_of rfl rfl (v192_0 hp ?_)
    rw [ff 163 2 (by omega) (by omega), c10, e20, if_pos ((lle 600 (by omega) (by omega)).mpr ct)]
    have y0 : (am_u I5 163 0 0) 163 0 = 0 := am_u_same
    have yF : ∀ o k, ¬ (o = 163 ∧ k = 0) → (am_u I5 163 0 0) o k = I5 o k := fun o k e => am_u_nq e
    generalize am_u I5 163 0 0 = I6 at y0 yF ⊢
    have LP : ∀ (y j : Nat) (I7 : am_I) (l7 : Option Value), 20 - j = y → j ≤ 20 → I7 163 2 = ni (tp + j) → (∀ k, k < j → I7 165 (tp + k) = fdB x1 x2 x3 x4 x5 k) → (∀ o k, ¬ (o = 163 ∧ k = 2) → ¬ (o = 165 ∧ tp ≤ k ∧ k < tp + j) → I7 o k = I6 o k) → am_go none (D2' + 3) 192 (23, [some (.ref 163), some (.int x1), some (.int x2), some (.int x3), some (.int x4), some (.int x5), some (.int (ni j)), l7], [], (am_SH, I7, J2, Pf), 0, 0) P2 := by
      intro y
      induction y with
      | zero =>
        intro j I7 l7 hy hj g1 g2 g3
        obtain rfl : j = 20 := by omega
        refine v192_23 hp ?_
        rw [if_pos (by decide), g1]
        have gg : ∀ o k, o ≠ 2 → ¬ (o = 1 ∧ k = 1) → ¬ (o = 163 ∧ (k = 0 ∨ k = 2)) → o ≠ 165 → I7 o k = I o k := fun o k e1 e2 e3 e4 => by rw [g3 o k (by omega) (by omega), yF o k (by omega), ff o k e1 e2]
        refine kk2 I7 ⟨r, la, w, T, p, m, q, c, ms, L, h1, h2, h3, h4.dep hr h2 (fun o k e => gg o k (by omega) (by omega) (by omega) (by omega)) (fun _ _ => rfl) rfl, h5.of (fun o y e => gg o y (by omega) (by omega) (by omega) (by omega)), h6.of (fun o k a b => gg o k (by omega) (by omega) (by omega) (by omega)), ?_, h8.of (fun o k e => gg o k (by omega) (by omega) (by omega) (by omega)), h9.of hla (fun o k e => gg o k (by omega) (by omega) (by omega) (by omega))⟩ (by rw [g3 _ _ (by omega) (by omega)]; exact y0)
        have e2 : ∀ k, I7 2 k = I5 2 k := fun k => by rw [g3 _ _ (by omega) (by omega), yF _ _ (by omega)]
        have hv : ∀ k, I5 2 k ≠ -1 := by
          intro k
          by_cases e : tp ≤ k ∧ k < tp + 20
          · rw [show k = tp + (k - tp) by omega, fi _ (by omega)]
            exact byt_ne
          · rw [fo k e]; exact c7 k
        refine ⟨by rw [gg _ _ (by omega) (by omega) (by omega) (by omega), gg _ _ (by omega) (by omega) (by omega) (by omega)]; exact c1, by rw [gg _ _ (by omega) (by omega) (by omega) (by omega), gg _ _ (by omega) (by omega) (by omega) (by omega)]; exact c2, by rw [gg _ _ (by omega) (by omega) (by omega) (by omega), gg _ _ (by omega) (by omega) (by omega) (by omega)]; exact c3, by rw [gg _ _ (by omega) (by omega) (by omega) (by omega), gg _ _ (by omega) (by omega) (by omega) (by omega)]; exact c4, by rw [gg _ _ (by omega) (by omega) (by omega) (by omega), gg _ _ (by omega) (by omega) (by omega) (by omega)]; exact c5, ?_, fun k => by rw [e2]; exact hv k, tp + 20, ct, by rw [g3 _ _ (by omega) (by omega), yF _ _ (by omega)]; exact l5', g1⟩
        funext k
        rw [e2]
        by_cases e : tp ≤ k ∧ k < tp + 20
        · rw [show k = tp + (k - tp) by omega, fi _ (by omega), g2 _ (by omega)]
        · rw [fo k e, g3 _ _ (by omega) (by omega), yF _ _ (by omega), ff _ _ (by omega) (by omega), c6]
      | succ y ih =>
        intro j I7 l7 hy hj g1 g2 g3
        have hj20 : j < 20 := by omega
        have e4 : ni j - ni j / (4 : Int32) * 4 = ni (j % 4) := ni_mod (a := j) (n := 4) (by omega) (by omega)
        have e24 : (24 : Int32) - 8 * ni (j % 4) = ni (24 - 8 * (j % 4)) := by
          rw [show (8 : Int32) = ni 8 from rfl, ni_mul]
          exact ni_sub (a := 24) (b := 8 * (j % 4)) (by omega)
        have nx : ∀ v l7, v = fdS x1 x2 x3 x4 x5 j → am_go none (D2' + 3) 192 (23, [some (.ref 163), some (.int x1), some (.int x2), some (.int x3), some (.int x4), some (.int x5), some (.int (ni (j + 1))), l7], [], (am_SH, am_u (am_u I7 165 (tp + j) (byt v (24 - 8 * (j % 4)))) 163 2 (ni (tp + j + 1)), J2, Pf), 0, 0) P2 := by
          intro v l7 hv
          refine ih (j + 1) _ l7 (by omega) (by omega) am_u_same (fun k hk => ?_) (fun o k e1 e2 => ?_)
          · rw [am_u_nq (by omega)]
            by_cases e : k = j
            · subst e
              rw [am_u_same, hv]; rfl
            · rw [am_u_nq (by omega)]
              exact g2 k (by omega)
          · rw [am_u_nq e1, am_u_nq (by omega)]
            exact g3 o k e1 (by omega)
        have eu : ∀ v : Int32, (am_u I7 165 (tp + j) v) 163 2 = ni (tp + j) := fun v => (am_u_nq (by omega)).trans g1
        have in1 : am_in (ni (tp + j)) 600 = true := ni_in (by omega) (by omega)
        refine v192_23 hp ?_
        rw [if_neg (fun z => absurd ((gle 20 (by omega) (by omega)).mp z) (by omega)), g1, show (ni (tp + j)).toNatClampNeg = tp + j from ni_nat (by omega), ni_p1, ni_p1, e4, e24, ash8 _ (by omega), ash8 _ (by omega), ash8 _ (by omega), ash8 _ (by omega), ash8 _ (by omega)]
        by_cases e1 : 4 ≤ j
        · rw [if_pos ((gle 4 (by omega) (by omega)).mpr e1)]
          by_cases e2 : 8 ≤ j
          · rw [if_pos ((gle 8 (by omega) (by omega)).mpr e2)]
            by_cases e3 : 12 ≤ j
            · rw [if_pos ((gle 12 (by omega) (by omega)).mpr e3)]
              by_cases e5 : 16 ≤ j
              · rw [if_pos ((gle 16 (by omega) (by omega)).mpr e5)]
                exact ⟨in1, nx _ _ (by unfold fdS; rw [if_neg (by omega), if_neg (by omega), if_neg (by omega), if_neg (by omega)])⟩
              · rw [if_neg (fun z => e5 ((gle 16 (by omega) (by omega)).mp z))]
                exact ⟨in1, nx _ _ (by unfold fdS; rw [if_neg (by omega), if_neg (by omega), if_neg (by omega), if_pos (by omega)])⟩
            · rw [if_neg (fun z => e3 ((gle 12 (by omega) (by omega)).mp z))]
              exact ⟨in1, nx _ _ (by unfold fdS; rw [if_neg (by omega), if_neg (by omega), if_pos (by omega)])⟩
          · rw [if_neg (fun z => e2 ((gle 8 (by omega) (by omega)).mp z))]
            exact ⟨in1, nx _ _ (by unfold fdS; rw [if_neg (by omega), if_pos (by omega)])⟩
        · rw [if_neg (fun z => e1 ((gle 4 (by omega) (by omega)).mp z))]
          exact ⟨in1, nx _ _ (by unfold fdS; rw [if_pos (by omega)])⟩
    exact LP 20 0 I6 _ rfl (Nat.zero_le _) (by rw [yF _ _ (by omega), ff _ _ (by omega) (by omega)]; exact c10) (fun k hk => absurd hk (by omega)) (fun _ _ _ _ => rfl)
  · rw [if_neg (fun z => ct ((lle 600 (by omega) (by omega)).mp z))]
    refine kk (.inr (-1)) I J Pf (fun E z => by cases z) (fun J2 hJ2 D2 P2 hD2 kk2 => ?_) (fun _ => rfl) rfl
    replace kk2 := fun I2 hi => kk2 I2 (INV.j202 hJ2 hi)
    obtain ⟨D2', rfl⟩ : ∃ D', D2 = D' + 4 := ⟨D2 - 4, by omega⟩
    refine am_mth_of rfl rfl (v192_0 hp ?_)
    rw [c10, e20, if_neg (fun z => ct ((lle 600 (by omega) (by omega)).mp z))]
    exact kk2 (am_u I 163 0 0) h.z am_u_same
