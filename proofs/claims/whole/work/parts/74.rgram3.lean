/-! The reference: drops, clauses, the whole text -/
theorem RM.oth2 {I : am_I} {b : Nat → Int32} {n a : Nat} {x y : Int32} (h : RM I b n a) : RM (am_u (am_u I 163 5 x) 163 6 y) b n a := h.oth (fun o k e => by rw [am_u_nq (by omega), am_u_nq (by omega)])
section RG3
variable {d : Nat} {P : am_O → Prop} {J : am_J} {Pf : am_R} {n : Nat} {b : Nat → Int32} {I : am_I} {a : Nat}
theorem sr_num2 (hp : am_PF Pf) {lim : Nat} (hl : lim ≤ 1000) (h : RM I b n a) (h5 : I 163 5 = -1)
    (kk : rm2 (mNum b n lim a) (fun z => RM (am_u I 163 4 (ni z.2)) b n z.2 → z.1 < lim → P (.inl (some (.int (ni z.1))), (am_SH, am_u I 163 4 (ni z.2), J, Pf), 0, 0)) (fun kd pl => ∀ I', rFF I I' kd pl → pl ≤ 600 → (∃ a', RM I' b n a') → P (.inl (some (.int 0)), (am_SH, I', J, Pf), 0, 0))) :
    am_mth (d + 3) 201 [.ref 163, .int 0, .int (ni lim - ni 1)] (am_SH, I, J, Pf) P := by
  have hR := h
  obtain ⟨h1, h2, h3, h4, h6⟩ := h
  have hq := rsk_le (b := b) h4
  have hfr : rFr I (am_u I 163 4 (ni (rsk b n a))) := rFr.rfl'.u (by simp [rSc])
  unfold mNum at kk
  refine am_mth_of rfl rfl (v201_0 hp ?_)
  simp (disch := omega) only [↓reduceIte, ni_l, ni_add, ni_sub, ni_mul, ni_nat, ni_lt, ni_le, ni_inj, ni_m1, nleT, nleF, nltT, nltF, neqT, neqF, am_uA, am_u_o, am_iT, and_true, true_and, not_true_eq_false, not_false_eq_true, and_self, or_true, true_or, or_false, false_or, ni_zT, ni_oT, h5]
  refine sr_here hp hR (am_back (v201_13 hp ?_))
  have u5 : am_u I 163 4 (ni (rsk b n a)) 163 5 = -1 := u_5 (by omega) h5
  generalize hqq : rsk b n a = q at *
  split
  · rename_i c
    rw [if_neg (fun z => absurd c (isDg_d.mp z).1)] at kk
    simp (disch := omega) only [↓reduceIte, ni_l, ni_add, ni_sub, ni_mul, ni_nat, ni_lt, ni_le, ni_inj, ni_m1, nleT, nleF, nltT, nltF, neqT, neqF, am_uA, am_u_o, am_iT, and_true, true_and, not_true_eq_false, not_false_eq_true, and_self, or_true, true_or, or_false, false_or, ni_zT, ni_oT, u5, am_u_same]
    exact kk _ (rFF.mark hfr) (by omega) ⟨q, (hR.at hq.2).oth2⟩
  · split
    · rename_i c
      rw [if_neg (fun z => absurd c (isDg_d.mp z).2)] at kk
      simp (disch := omega) only [↓reduceIte, ni_l, ni_add, ni_sub, ni_mul, ni_nat, ni_lt, ni_le, ni_inj, ni_m1, nleT, nleF, nltT, nltF, neqT, neqF, am_uA, am_u_o, am_iT, and_true, true_and, not_true_eq_false, not_false_eq_true, and_self, or_true, true_or, or_false, false_or, ni_zT, ni_oT, u5, am_u_same]
      exact kk _ (rFF.mark hfr) (by omega) ⟨q, (hR.at hq.2).oth2⟩
    · rename_i c1 c2
      rw [if_pos (isDg_d.mpr ⟨c1, c2⟩)] at kk
      rw [am_u_same]
      refine rr_dig hp (n - q) _ q 0 0 rfl (hR.at hq.2) (Or.inl rfl) (by omega) ?_
      intro v' g1 g2 gR
      rw [am_u_u] at gR ⊢
      have hbnd := gR.2.2.2.1
      refine v201_114 hp ?_
      have c0 : ¬ (ni v' < ni 0) := ni_nonneg (by omega)
      have u5' : am_u I 163 4 (ni (dgF b (n - q) q 0).2) 163 5 = -1 := u_5 (by omega) h5
      by_cases hv : v' < lim
      · have cl : ni v' ≤ ni lim - ni 1 := (ni_leL (by omega) hl).mpr hv
        have e : v' = (dgF b (n - q) q 0).1 := by omega
        rw [if_pos (by omega)] at kk
        rw [if_neg c0, if_pos cl]
        rw [e]
        exact kk gR (by omega)
      · have cl : ¬ (ni v' ≤ ni lim - ni 1) := fun z => hv ((ni_leL (by omega) hl).mp z)
        rw [if_neg (by omega)] at kk
        rw [if_neg c0, if_neg cl, if_pos u5']
        exact kk _ (rFF.mark (rFr.rfl'.u (by simp [rSc]))) (by omega) ⟨_, gR.oth2⟩

theorem sr_drop (hp : am_PF Pf) {k pl0 c : Nat} {w : Nat → Int32} (hk : k < 8) (h : RM I b n a) (h5 : I 163 5 = -1) (hw : I 166 = w)
    (kk : rm2 (mDrop b n w k pl0 c a) (fun z => ∀ I', rGX I I' b n z → P (.inl none, (am_SH, I', J, Pf), 0, 0)) (fun kd pl => ∀ I', rFF I I' kd pl → pl ≤ 600 → P (.inl none, (am_SH, I', J, Pf), 0, 0))) :
    am_mth (d + 5) 227 [.ref 163, .int (ni k), .int (ni pl0), .int (ni c)] (am_SH, I, J, Pf) P := by
  unfold mDrop at kk
  have ei : (1008 : Int32) + 4 * ni k = ni (1008 + 4 * k) := by rw [show (4 : Int32) = ni 4 from rfl, show (1008 : Int32) = ni 1008 from rfl, ni_mul, ni_add]
  have s7 : (7 : Int32) = ni 8 - ni 1 := by decide
  have bad : ∀ (I1 : am_I) (e : Nat × Nat) (l1 l5 : Option Value), rFF I I1 e.1 e.2 → e.2 ≤ 600 → (∀ I', rFF I I' e.1 e.2 → e.2 ≤ 600 → P (.inl none, (am_SH, I', J, Pf), 0, 0)) → am_go none (d + 4) 227 (83, [some (.ref 163), l1, some (.int (ni pl0)), some (.int (ni c)), some (.int (ni (1008 + 4 * k))), l5], [], (am_SH, I1, J, Pf), 0, 0) P := by
    intro I1 e l1 l5 hF hpl kk
    refine v227_83 hp ?_
    rw [ni_p2, ni_p3]
    exact ⟨ni_in (by omega) (by omega), ni_in (by omega) (by omega), kk _ (hF.then ((rNF.rfl'.u (by simp [rSc]) (by omega)).u (by simp [rSc]) (by omega))) hpl⟩
  refine am_mth_of rfl rfl (v227_0 hp ?_)
  rw [ei, s7]
  refine sr_num2 (d := d + 1) hp (by omega) h h5 ?_
  cases hm : mNum b n 8 a with
  | inl e =>
    rw [hm] at kk
    rintro I' hF hpl ⟨a', hR'⟩
    refine am_back (v227_22 hp ⟨ni_in (by omega) (by omega), ?_⟩)
    have hR2 : RM (am_u I' 166 (ni (1008 + 4 * k)).toNatClampNeg 0) b n a' := hR'.oth (fun o k e => am_u_nq (by omega))
    have hF2 : rFF I (am_u (am_u I' 166 (ni (1008 + 4 * k)).toNatClampNeg 0) 163 4 (ni (rsk b n a'))) e.1 e.2 := hF.then ((rNF.rfl'.u (by simp [rSc]) (by omega)).u (by simp [rSc]) (by omega))
    refine sr_here (d := d + 3) hp hR2 (am_back (v227_27 hp (sr_num_nf (d := d + 1) hp (hF2.bad (by omega)) (am_back (v227_49 hp ?_)))))
    rw [ni_p1]
    refine ⟨ni_in (by omega) (by omega), ?_⟩
    rw [if_neg (hF2.bad (by omega))]
    exact bad _ e _ _ (hF2.then (rNF.rfl'.u (by simp [rSc]) (by omega))) hpl kk
  | inr z =>
    rw [hm] at kk
    dsimp only [rb] at kk
    intro hR hlt
    have hq := rsk_le (b := b) hR.2.2.2.1
    have hn6 := hR.2.2.2.2
    refine am_back (v227_22 hp ⟨ni_in (by omega) (by omega), ?_⟩)
    rw [ni_nat (by omega)]
    have hR2 : RM (am_u (am_u I 163 4 (ni z.2)) 166 (1008 + 4 * k) (ni z.1)) b n z.2 := hR.oth (fun o k e => am_u_nq (by omega))
    refine sr_here (d := d + 3) hp hR2 (am_back (v227_27 hp ?_))
    rw [am_u_same, ni_p1, s7]
    have hR3 := hR2.at hq.2
    have e166 : am_u (am_u (am_u I 163 4 (ni z.2)) 166 (1008 + 4 * k) (ni z.1)) 163 4 (ni (rsk b n z.2)) 166 = fu w (1008 + 4 * k) (ni z.1) := by rw [am_u_o (by omega), am_u_row, am_u_o (by omega), hw]
    have hfI : ∀ o k', o ≠ 166 → o ≠ 168 → ¬ (o = 163 ∧ (k' = 4 ∨ (14 ≤ k' ∧ k' ≤ 19))) → am_u (am_u (am_u I 163 4 (ni z.2)) 166 (1008 + 4 * k) (ni z.1)) 163 4 (ni (rsk b n z.2)) o k' = I o k' := fun o k' e1 e2 e3 => by rw [am_u_nq (by omega), am_u_nq (by omega), am_u_nq (by omega)]
    have hrI : rFr I (am_u (am_u (am_u I 163 4 (ni z.2)) 166 (1008 + 4 * k) (ni z.1)) 163 4 (ni (rsk b n z.2))) := ((rFr.rfl'.u (by simp [rSc])).u (by simp [rSc])).u (by simp [rSc])
    generalize am_u (am_u (am_u I 163 4 (ni z.2)) 166 (1008 + 4 * k) (ni z.1)) 163 4 (ni (rsk b n z.2)) = I2 at *
    have m5 : I2 163 5 = -1 := by rw [hfI _ _ (by omega) (by omega) (by omega)]; exact h5
    have err : rsk b n (rsk b n z.2) = rsk b n z.2 := rsk_rsk hR.2.2.2.1
    have emN : mNum b n 8 (rsk b n z.2) = mNum b n 8 z.2 := by unfold mNum; rw [err]
    refine sr_num (d := d + 1) hp (by omega) hR3 m5 ?_
    rw [emN]
    cases hm2 : mNum b n 8 z.2 with
    | inl e =>
      rw [hm2] at kk
      intro I' hF hpl
      have hF2 : rFF I I' e.1 e.2 := rFF.after hrI hF
      refine am_back (v227_49 hp ?_)
      refine ⟨ni_in (by omega) (by omega), ?_⟩
      rw [if_neg (hF2.bad (by omega))]
      exact bad _ e _ _ (hF2.then (rNF.rfl'.u (by simp [rSc]) (by omega))) hpl kk
    | inr y =>
      rw [hm2] at kk
      dsimp only [rb] at kk
      intro hR4 hlt2
      refine am_back (v227_49 hp ?_)
      refine ⟨ni_in (by omega) (by omega), ?_⟩
      rw [if_pos (u_5 (by omega) m5), ni_p1, ni_nat (by omega), ni_nat (by omega)]
      refine ⟨ni_in (by omega) (by omega), ni_in (by omega) (by omega), ?_⟩
      have c1 : am_u (am_u I2 163 4 (ni y.2)) 166 (1008 + 4 * k + 1) (ni y.1) 166 (1008 + 4 * k + 1) = ni y.1 := am_u_same
      have c2 : am_u (am_u I2 163 4 (ni y.2)) 166 (1008 + 4 * k + 1) (ni y.1) 166 (1008 + 4 * k) = ni z.1 := by rw [am_u_nq (by omega), am_u_nq (by omega), e166, fu_s]
      rw [c1, c2]
      have cc : (ni y.1 = ni z.1) ↔ y.1 = z.1 := ni_inj (by omega) (by omega)
      have hr3 : rFr I (am_u (am_u I2 163 4 (ni y.2)) 166 (1008 + 4 * k + 1) (ni y.1)) := (hrI.u (by simp [rSc])).u (by simp [rSc])
      by_cases c : y.1 = z.1
      · rw [if_pos c] at kk
        rw [if_pos (cc.mpr c)]
        exact bad _ (2, rsk b n z.2) _ _ (rFF.mark hr3) (by show rsk b n z.2 ≤ 600; omega) kk
      · rw [if_neg c] at kk
        rw [if_neg (fun z => c (cc.mp z))]
        refine v227_83 hp ?_
        rw [ni_p2, ni_p3, ni_nat (by omega), ni_nat (by omega)]
        refine ⟨ni_in (by omega) (by omega), ni_in (by omega) (by omega), kk _ ⟨?_, ?_, ?_⟩⟩
        · rw [am_u_row, am_u_row, am_u_row, am_u_o (by omega), e166]
        · exact hR4.oth (fun o k e => by rw [am_u_nq (by omega), am_u_nq (by omega), am_u_nq (by omega)])
        · intro o k' e1 e2 e3
          rw [am_u_nq (by omega), am_u_nq (by omega), am_u_nq (by omega), am_u_nq (by omega)]
          exact hfI o k' e1 e2 e3
end RG3
