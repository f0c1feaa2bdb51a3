/-! The shelf: texts kept and given back -/
def fup (p : Nat → TX) (m : Nat) (T : TX) : Nat → TX := fun k => if k = m then T else p k
def shObj (s : Nat) : Prop := am_SH[s]? = some (.inl 5) ∧ am_SH[s + 1]? = some (.inr (0, 408)) ∧ am_SH[s + 2]? = some (.inr (0, 17))
theorem shObj_8 : shObj 108 := ⟨rfl, rfl, rfl⟩
theorem shObj_j {j : Nat} (hj : j < 3) {Pf : am_R} (hp : am_PF Pf) : shObj (154 + 3 * j) ∧ Pf 111 j = some (154 + 3 * j) := by
  have : j = 0 ∨ j = 1 ∨ j = 2 := by omega
  rcases this with rfl | rfl | rfl
  · exact ⟨⟨rfl, rfl, rfl⟩, hp _ _ _ rfl⟩
  · exact ⟨⟨rfl, rfl, rfl⟩, hp _ _ _ rfl⟩
  · exact ⟨⟨rfl, rfl, rfl⟩, hp _ _ _ rfl⟩
theorem cQ.new {r : Nat} (hr : r = 16 ∨ r = 55) {I I' : am_I} {J J' : am_J} {w : Nat → Int32} {T T' : TX} (hG : WG w) (h : cQ r I J w T) (hT : cTx 135 I' T') (hTo : txOK T') (hK : ∀ k, I' 119 k = I 119 k) (hJ : J' 118 = J 118) (f : ∀ o k, r ≤ o → o < r + 39 → I' o k = I o k) (g : ∀ o, o < 112 → J' o = J o) (h12 : I' 0 12 = 0) : cQ r I' J' w T' := ⟨h.1.mid hr hG f g, hT, hTo, h.2.2.2.1.of hK hJ, Or.inl h12⟩
theorem rQ.new {I I' : am_I} {w : Nat → Int32} {T T' : TX} (h : rQ I w T) (hT : rTx 180 I' T') (hTo : txOK T') (f : ∀ o k, (o = 167 ∨ o = 171 ∨ o = 187 ∨ (o = 163 ∧ k = 48)) → I' o k = I o k) (h46 : I' 163 46 = 0) : rQ I' w T' := by
  obtain ⟨h1, h2, h3, h4, h5, h6⟩ := h
  exact ⟨by rw [← h1]; funext k; exact f _ _ (by omega), fun s h8 => by rw [f _ _ (by omega)]; exact h2 s h8, hT, hTo, h5.of (f _ _ (by omega)) (fun k => f _ _ (by omega)), Or.inl h46⟩
section SHF
variable {P : am_O → Prop} {I : am_I} {J : am_J} {Pf : am_R} {T : TX} {p : Nat → TX} {d m s : Nat}
theorem sc_shkeep (hp : am_PF Pf) (ho : shObj s) (hs1 : s ≠ 135 ∧ s ≠ 136 ∧ s + 1 ≠ 135 ∧ s + 1 ≠ 136 ∧ s + 2 ≠ 135 ∧ s + 2 ≠ 136) (h : shC s I p m) (hm : m < 17) (hpo : ∀ k, k < m → txOK (p k)) (hT : cTx 135 I T) (kk : ∀ I', shC s I' (fup p m T) (m + 1) → (∀ o k, ¬ (s ≤ o ∧ o ≤ s + 2) → I' o k = I o k) → P (.inl none, (am_SH, I', J, Pf), 0, 0)) : am_mth (d + 1) 71 [.ref s, .ref 135] (am_SH, I, J, Pf) P := by
  obtain ⟨o1, o2, o3⟩ := ho
  have h24 := hT.2.1
  refine am_mth_of rfl rfl (v71_0 hp o1 rfl ?_)
  rw [h.1, if_pos ((llt 17 (by omega) (by omega)).mpr hm), show (24 : Int32) = ni 24 from rfl, ni_mul]
  refine v71_28 (dp := m * 24) (L0 := 24) (L1 := 408) rfl o2 (Nat.le_refl _) (by omega) (by omega) (v71_31 hp o1 rfl ?_)
  have c2 : cpI I (s + 1) 136 0 (m * 24) 24 s 2 = ni m := by rw [cpI_out (by omega)]; exact h.1
  rw [c2, show (ni m).toNatClampNeg = m from ni_nat (by omega), show cpI I (s + 1) 136 0 (m * 24) 24 135 1 = ni T.1 by rw [cpI_out (by omega)]; exact hT.1, show (am_u (cpI I (s + 1) 136 0 (m * 24) 24) (s + 2) m (ni T.1)) s 2 = ni m by rw [am_u_nq (by omega)]; exact c2, ni_p1]
  refine ⟨ni_in (by omega) (by omega), kk _ ⟨am_u_same, fun k hk => ?_⟩ (fun o k e => by rw [am_u_nq (by omega), am_u_nq (by omega), cpI_out (by omega)])⟩
  unfold fup
  by_cases e : k = m
  · subst e
    rw [if_pos rfl]
    refine ⟨by rw [am_u_nq (by omega)]; exact am_u_same, fun i hi => ?_⟩
    rw [am_u_nq (by omega), am_u_nq (by omega), show 24 * k + i = k * 24 + i by omega, cpI_in (by omega) (by omega), show 0 + (k * 24 + i - k * 24) = i by omega]
    exact hT.2.2 i hi
  · rw [if_neg e]
    have hpk := (hpo k (by omega)).1
    refine ⟨by rw [am_u_nq (by omega), am_u_nq (by omega), cpI_out (by omega)]; exact (h.2 k (by omega)).1, fun i hi => ?_⟩
    rw [am_u_nq (by omega), am_u_nq (by omega), cpI_out (by omega)]
    exact (h.2 k (by omega)).2 i hi
theorem sc_shback (hp : am_PF Pf) (ho : shObj s) (hs1 : s ≠ 135 ∧ s ≠ 136 ∧ s + 1 ≠ 135 ∧ s + 1 ≠ 136 ∧ s + 2 ≠ 135 ∧ s + 2 ≠ 136) (h : shC s I p (m + 1)) (hm : m < 17) (hpo : txOK (p m)) (kk : ∀ I', shC s I' p m → cTx 135 I' (p m) → (∀ o k, ¬ (o = s ∧ k = 2) → ¬ (o = 135 ∧ k = 1) → o ≠ 136 → I' o k = I o k) → P (.inl none, (am_SH, I', J, Pf), 0, 0)) : am_mth (d + 1) 72 [.ref s, .ref 135] (am_SH, I, J, Pf) P := by
  obtain ⟨o1, o2, o3⟩ := ho
  have h24 := hpo.1
  refine am_mth_of rfl rfl (v72_0 hp o1 rfl ?_)
  rw [h.1, if_pos ((gle 1 (by omega) (by omega)).mpr (by omega)), show ni (m + 1) - 1 = ni m from ni_sub (a := m + 1) (b := 1) (by omega), show (24 : Int32) = ni 24 from rfl, ni_mul]
  refine v72_37 (sp := m * 24) (L0 := 408) (L1 := 24) o2 rfl (Nat.le_refl _) (by omega) (by omega) (v72_40 hp o1 rfl ?_)
  have f : ∀ o k, ¬ (o = s ∧ k = 2) → o ≠ 136 → cpI (am_u I s 2 (ni m)) 136 (s + 1) (m * 24) 0 24 o k = I o k := fun o k e1 e2 => by rw [cpI_out (by omega), am_u_nq e1]
  have c2 : cpI (am_u I s 2 (ni m)) 136 (s + 1) (m * 24) 0 24 s 2 = ni m := by rw [cpI_out (by omega)]; exact am_u_same
  rw [c2, show (ni m).toNatClampNeg = m from ni_nat (by omega), f (s + 2) m (by omega) (by omega), (h.2 m (by omega)).1]
  refine ⟨ni_in (by omega) (by omega), kk _ ⟨?_, fun k hk => ⟨?_, fun i hi => ?_⟩⟩ ⟨am_u_same, h24, fun i hi => ?_⟩ (fun o k e1 e2 e3 => ?_)⟩
  · rw [am_u_nq (by omega)]; exact c2
  · rw [am_u_nq (by omega), f _ _ (by omega) (by omega)]; exact (h.2 k (by omega)).1
  · rw [am_u_nq (by omega), f _ _ (by omega) (by omega)]; exact (h.2 k (by omega)).2 i hi
  · rw [am_u_nq (by omega)]
    show cpI (am_u I s 2 (ni m)) 136 (s + 1) (m * 24) 0 24 136 i = _
    rw [cpI_in (by omega) (by omega), am_u_nq (by omega), show m * 24 + (i - 0) = 24 * m + i by omega]
    exact (h.2 m (by omega)).2 i hi
  · rw [am_u_nq (by omega)]; exact f o k e1 e3
theorem sc_shcopy (hp : am_PF Pf) {t : Nat} (ho : shObj s) (ho2 : shObj t) (hst : s + 3 ≤ t ∨ t + 3 ≤ s) (h : shC t I p m) (hm : m ≤ 17) (hpo : ∀ k, k < m → txOK (p k)) (kk : ∀ I', shC s I' p m → (∀ o k, ¬ (s ≤ o ∧ o ≤ s + 2) → I' o k = I o k) → P (.inl none, (am_SH, I', J, Pf), 0, 0)) : am_mth (d + 1) 73 [.ref s, .ref t] (am_SH, I, J, Pf) P := by
  obtain ⟨o1, o2, o3⟩ := ho
  obtain ⟨q1, q2, q3⟩ := ho2
  refine am_mth_of rfl rfl (v73_0 hp o1 q1 ?_)
  refine v73_15 (L0 := 408) (L1 := 408) q2 o2 (Nat.le_refl _) (Nat.le_refl _) (v73_18 hp o1 q1 ?_)
  refine v73_30 (L0 := 17) (L1 := 17) q3 o3 (Nat.le_refl _) (Nat.le_refl _) (v73_33 hp o1 q1 ?_)
  have f : ∀ o k, ¬ (s ≤ o ∧ o ≤ s + 2) → cpI (cpI I (s + 1) (t + 1) 0 0 408) (s + 2) (t + 2) 0 0 17 o k = I o k := fun o k e => by rw [cpI_out (by omega), cpI_out (by omega)]
  rw [f t 2 (by omega), h.1]
  refine kk _ ⟨am_u_same, fun k hk => ⟨?_, fun i hi => ?_⟩⟩ (fun o k e => by rw [am_u_nq (by omega)]; exact f o k e)
  · rw [am_u_nq (by omega), cpI_in (by omega) (by omega), cpI_out (by omega), show 0 + (k - 0) = k by omega]
    exact (h.2 k hk).1
  · have := (hpo k hk).1
    rw [am_u_nq (by omega), cpI_out (by omega), cpI_in (by omega) (by omega), show 0 + (24 * k + i - 0) = 24 * k + i by omega]
    exact (h.2 k hk).2 i hi
end SHF
/-- work that is undone -/
theorem pr_undo {I : am_I} {J : am_J} {Pf : am_R} (h : INV I J Pf) : PAIR cd1 146 253 [] I J Pf := by
  obtain ⟨r, la, w, T, p, m, q, c, ms, L, h1, h2, h3, h4, h5, h6, h7, h8, h9⟩ := id h
  obtain ⟨hp, hr, k2, k3, kF, hla, k4, k5⟩ := id h1
  obtain ⟨⟨m16, hpo, hsC, hsR⟩, hI⟩ := id h8
  intro D P hD kk
  obtain ⟨D', rfl⟩ : ∃ D', D = D' + 4 := ⟨D - 4, by omega⟩
  refine am_mth_of rfl rfl (v146_0 hp ?_)
  rw [hsC.1]
  cases m with
  | zero =>
    rw [if_pos (by decide)]
    refine kk (.inr (-1)) I J Pf (fun E z => by cases z) (fun J2 hJ2 D2 P2 hD2 kk2 => ?_) (fun _ => rfl) rfl
    replace kk2 := fun I2 hi => kk2 I2 (INV.j202 hJ2 hi)
    obtain ⟨D2', rfl⟩ : ∃ D', D2 = D' + 4 := ⟨D2 - 4, by omega⟩
    refine am_mth_of rfl rfl (v253_0 hp ?_)
    rw [hsR.1, if_pos (by decide)]
    exact kk2 (am_u I 163 0 0) h.z am_u_same
  | succ m =>
    rw [if_neg (fun z => absurd ((leq 0 (by omega) (by omega)).mp z) (by omega))]
    have hpm := hpo m (by omega)
    refine sc_shback (d := D' + 2) hp shObj_8 (by decide) hsC (by omega) hpm (fun I1 a1 a2 a3 => am_back (v146_23 hp ?_))
    rw [a1.1]
    have f1 : ∀ o k, ¬ (o = 108 ∧ k = 2) → ¬ (o = 135 ∧ k = 1) → o ≠ 136 → ¬ (o = 0 ∧ (k = 12 ∨ k = 16)) → (am_u (am_u I1 0 16 0) 0 12 0) o k = I o k := fun o k e1 e2 e3 e4 => by rw [am_u_nq (by omega), am_u_nq (by omega)]; exact a3 o k e1 e2 e3
    have g16 : (am_u (am_u I1 0 16 0) 0 12 0) 0 16 = 0 := by rw [am_u_nq (by omega)]; exact am_u_same
    have g12 : (am_u (am_u I1 0 16 0) 0 12 0) 0 12 = 0 := am_u_same
    have gT : cTx 135 (am_u (am_u I1 0 16 0) 0 12 0) (p m) := ⟨by rw [am_u_nq (by omega), am_u_nq (by omega)]; exact a2.1, a2.2.1, fun i hi => by rw [am_u_nq (by omega), am_u_nq (by omega)]; exact a2.2.2 i hi⟩
    have gS : shC 108 (am_u (am_u I1 0 16 0) 0 12 0) p m := a1.of (fun o k e1 e2 => by rw [am_u_nq (by omega), am_u_nq (by omega)])
    generalize am_u (am_u I1 0 16 0) 0 12 0 = I2 at f1 g16 g12 gT gS ⊢
    refine kk (.inr (ni m)) I2 J Pf (fun E z => by cases z) (fun J2 hJ2 D2 P2 hD2 kk2 => ?_) (fun k => f1 _ _ (by omega) (by omega) (by omega) (by omega)) rfl
    replace kk2 := fun I2 hi => kk2 I2 (INV.j202 hJ2 hi)
    obtain ⟨D2', rfl⟩ : ∃ D', D2 = D' + 4 := ⟨D2 - 4, by omega⟩
    have w2 : I2 163 34 = ni (m + 1) := by rw [f1 _ _ (by omega) (by omega) (by omega) (by omega)]; exact hsR.1
    have t2 : ∀ k, I2 182 k = I 182 k := fun k => f1 _ _ (by omega) (by omega) (by omega) (by omega)
    refine am_mth_of rfl rfl (v253_0 hp ?_)
    rw [w2, if_neg (fun z => absurd ((leq 0 (by omega) (by omega)).mp z) (by omega)), show ni (m + 1) - 1 = ni m from ni_sub (a := m + 1) (b := 1) (by omega)]
    have s34 : (am_u (am_u I2 163 0 0) 163 34 (ni m)) 163 34 = ni m := am_u_same
    have s0 : (am_u (am_u I2 163 0 0) 163 34 (ni m)) 163 0 = 0 := by rw [am_u_nq (by omega)]; exact am_u_same
    have sf : ∀ o k, ¬ (o = 163 ∧ (k = 0 ∨ k = 34)) → (am_u (am_u I2 163 0 0) 163 34 (ni m)) o k = I2 o k := fun o k e => by rw [am_u_nq (by omega), am_u_nq (by omega)]
    generalize am_u (am_u I2 163 0 0) 163 34 (ni m) = I3 at s34 s0 sf ⊢
    obtain ⟨e1, e2⟩ := hsR.2 m (by omega)
    have LP : ∀ (y j : Nat) (I4 : am_I), 25 - j = y → j ≤ 25 → (∀ k, k < j → I4 180 k = I 182 (25 * m + k)) → (∀ o k, o ≠ 180 → I4 o k = I3 o k) → am_go none (D2' + 3) 253 (26, [some (.ref 163), some (.int (ni j))], [], (am_SH, I4, J2, Pf), 0, 0) P2 := by
      intro y
      induction y with
      | zero =>
        intro j I4 hy hj b1 b2'
        obtain rfl : j = 25 := by omega
        refine v253_26 hp ?_
        rw [if_pos (by decide), b2' 163 34 (by omega), s34]
        have hTx : rTx 180 (am_u (am_u I4 163 46 0) 163 35 0) (p m) := ⟨by rw [am_u_nq (by omega), am_u_nq (by omega), b1 0 (by omega)]; exact e1, hpm.1, fun i hi => by
          have := hpm.1
          rw [am_u_nq (by omega), am_u_nq (by omega), b1 _ (by omega), show 25 * m + (1 + i) = 25 * m + 1 + i by omega]
          exact e2 i hi⟩
        have ff : ∀ o k, ¬ (o = 163 ∧ (k = 0 ∨ k = 34 ∨ k = 35 ∨ k = 46)) → o ≠ 180 → (am_u (am_u I4 163 46 0) 163 35 0) o k = I2 o k := fun o k e1 e2 => by rw [am_u_nq (by omega), am_u_nq (by omega), b2' o k e2, sf o k (by omega)]
        have ff34 : (am_u (am_u I4 163 46 0) 163 35 0) 163 34 = ni m := by rw [am_u_nq (by omega), am_u_nq (by omega), b2' _ _ (by omega)]; exact s34
        have ff0 : (am_u (am_u I4 163 46 0) 163 35 0) 163 0 = 0 := by rw [am_u_nq (by omega), am_u_nq (by omega), b2' _ _ (by omega)]; exact s0
        have ff46 : (am_u (am_u I4 163 46 0) 163 35 0) 163 46 = 0 := by rw [am_u_nq (by omega)]; exact am_u_same
        have ff35 : (am_u (am_u I4 163 46 0) 163 35 0) 163 35 = 0 := am_u_same
        generalize am_u (am_u I4 163 46 0) 163 35 0 = I5 at hTx ff ff34 ff0 ff46 ff35 ⊢
        have gg : ∀ o k, ¬ (o = 108 ∧ k = 2) → ¬ (o = 135 ∧ k = 1) → o ≠ 136 → ¬ (o = 0 ∧ (k = 12 ∨ k = 16)) → ¬ (o = 163 ∧ (k = 0 ∨ k = 34 ∨ k = 35 ∨ k = 46)) → o ≠ 180 → I5 o k = I o k := fun o k e1 e2 e3 e4 e5 e6 => by rw [ff o k e5 e6, f1 o k e1 e2 e3 e4]
        refine kk2 I5 ⟨r, la, w, p m, p, m, q, c, ms, L, h1, h2, h3, h4.new hr h2 ⟨by rw [ff _ _ (by omega) (by omega)]; exact gT.1, gT.2.1, fun i hi => by rw [ff _ _ (by omega) (by omega)]; exact gT.2.2 i hi⟩ hpm (fun k => gg _ _ (by omega) (by omega) (by omega) (by omega) (by omega) (by omega)) rfl (fun o k a b => gg o k (by omega) (by omega) (by omega) (by omega) (by omega) (by omega)) (fun _ _ => rfl) (by rw [ff _ _ (by omega) (by omega)]; exact g12), h5.new hTx hpm (fun o k e => gg o k (by omega) (by omega) (by omega) (by omega) (by omega) (by omega)) ff46, h6.of (fun o k a b => gg o k (by omega) (by omega) (by omega) (by omega) (by omega) (by omega)), ?_, ⟨⟨by omega, fun k hk => hpo k (by omega), gS.of (fun o k a b => ff o k (by omega) (by omega)), ff34, fun k hk => (hsR.2 k (by omega)).of (fun k => gg _ _ (by omega) (by omega) (by omega) (by omega) (by omega) (by omega))⟩, ?_⟩, h9.of hla (fun o k e => gg o k (by omega) (by omega) (by omega) (by omega) (by omega) (by omega))⟩ ff0
        · obtain ⟨c1, c2, c3, c4, c5, c6, c7, tp, c8, c9, c10⟩ := h7
          have g : ∀ o k, ((o = 0 ∧ (k = 15 ∨ k = 18 ∨ k = 19)) ∨ o = 1 ∨ o = 2 ∨ o = 164 ∨ o = 165 ∨ (o = 163 ∧ (k = 2 ∨ k = 8 ∨ k = 10))) → I5 o k = I o k := fun o k e => gg o k (by omega) (by omega) (by omega) (by omega) (by omega) (by omega)
          refine ⟨by rw [g _ _ (by omega), g _ _ (by omega)]; exact c1, by rw [ff35, ff _ _ (by omega) (by omega)]; exact g16, by rw [g _ _ (by omega), g _ _ (by omega)]; exact c3, by rw [g _ _ (by omega), g _ _ (by omega)]; exact c4, by rw [g _ _ (by omega), g _ _ (by omega)]; exact c5, ?_, fun k => by rw [g _ _ (by omega)]; exact c7 k, tp, c8, by rw [g _ _ (by omega)]; exact c9, by rw [g _ _ (by omega)]; exact c10⟩
          funext k
          rw [g _ _ (by omega), g _ _ (by omega), c6]
        · obtain ⟨d1, d2, ⟨d3, d4⟩, d5, d6⟩ := hI
          exact ⟨d1, d2, ⟨by rw [gg _ _ (by omega) (by omega) (by omega) (by omega) (by omega) (by omega)]; exact d3, fun j hj => (d4 j hj).of (fun o k a b => gg o k (by omega) (by omega) (by omega) (by omega) (by omega) (by omega))⟩, by rw [gg _ _ (by omega) (by omega) (by omega) (by omega) (by omega) (by omega)]; exact d5, fun j hj => (d6 j hj).of (fun k => gg _ _ (by omega) (by omega) (by omega) (by omega) (by omega) (by omega))⟩
      | succ y ih =>
        intro j I4 hy hj b1 b2'
        refine v253_26 hp ?_
        rw [if_neg (fun z => absurd ((gle 25 (by omega) (by omega)).mp z) (by omega)), b2' 163 34 (by omega), s34, show (25 : Int32) = ni 25 from rfl, ni_mul, ni_add, show (ni (25 * m + j)).toNatClampNeg = 25 * m + j from ni_nat (by omega), show (ni j).toNatClampNeg = j from ni_nat (by omega), ni_p1]
        refine ⟨ni_in (by omega) (by omega), ni_in (by omega) (by omega), ih (j + 1) _ (by omega) (by omega) (fun k hk => ?_) (fun o k e => by rw [am_u_nq (by omega)]; exact b2' o k e)⟩
        by_cases e : k = j
        · subst e
          rw [am_u_same, b2' _ _ (by omega), sf _ _ (by omega), t2]
        · rw [am_u_nq (by omega)]
          exact b1 k (by omega)
    exact LP 25 0 I3 rfl (Nat.zero_le _) (fun k hk => absurd hk (by omega)) (fun _ _ _ => rfl)
