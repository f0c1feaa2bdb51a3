/-! The class's nodes, their facts, their worth -/
section CND
variable {P : am_O → Prop} {J : am_J} {Pf : am_R} {T : TX} {w : Nat → Int32} {r : Nat}
theorem cGrn.of {I I' : am_I} {k0 s i j : Nat} (h : cGrn I w k0 T s i j) (f1 : I' 145 9 = I 145 9) (f2 : ∀ y, I' 149 y = I 149 y) : cGrn I' w k0 T s i j := ⟨by rw [f1]; exact h.1, fun x n hx => (h.2 x n hx).of (fun y _ => f2 _)⟩
/-- a node's ways, written down -/
theorem cGrn.put (hG : WG w) {I : am_I} {s i j s' i' j' k : Nat} {n : ND} (h : cGrn I w 3 T s i j) (h24 : T.1 ≤ 24) (p1 : s < 8) (p2 : i ≤ j) (p3 : j ≤ T.1) (p4 : 0 < HHx w 3 T s i j) (h' : cGrn I w 3 T s' i' j') (q1 : s' < 8) (q2 : i' ≤ j') (q3 : j' ≤ T.1) (q4 : 0 < HHx w 3 T s' i' j') (hk : (trW w T s i j)[k]? = some n) : cGrn (am_u I 149 (6 * k + 4) (wyM w T (pos (HHx w 3 T)) (QQx w 3 T) n.1 n.2.1 n.2.2.1)) w 3 T s' i' j' := by
  have e1 : trW w T s i j = treeW w T (HHx w 3 T) s i j := if_neg (by omega)
  have e2 : trW w T s' i' j' = treeW w T (HHx w 3 T) s' i' j' := if_neg (by omega)
  rw [e1] at hk
  obtain ⟨o1, o2, o3, o4, o5⟩ := trW_ok hG p1 p2 p3 (by rw [e1]; exact List.mem_of_getElem? hk)
  obtain ⟨a1, a2, a3, a4, a5, a6⟩ := h.2 k n hk
  refine ⟨by rw [am_u_nq (by omega)]; exact h'.1, fun x m hx => ?_⟩
  obtain ⟨b1, b2, b3, b4, b5, b6⟩ := h'.2 x m hx
  obtain ⟨u1, u2, u3, u4, u5⟩ := trW_ok hG q1 q2 q3 (by rw [e2]; exact List.mem_of_getElem? hx)
  by_cases c : x = k
  · subst c
    have g1 : n.1 = m.1 := (ni_inj (by omega) (by omega)).mp (a1.symm.trans b1)
    have g2 : n.2.1 = m.2.1 := (ni_inj (by omega) (by omega)).mp (a2.symm.trans b2)
    have g3 : n.2.2.1 = m.2.2.1 := (ni_inj (by omega) (by omega)).mp (a3.symm.trans b3)
    rw [g1, g2, g3]
    refine ⟨?_, ?_, ?_, ?_, Or.inr am_u_same, ?_⟩
    · rw [am_u_nq (by omega)]; exact b1
    · rw [am_u_nq (by omega)]; exact b2
    · rw [am_u_nq (by omega)]; exact b3
    · rw [am_u_nq (by omega)]; exact b4
    · rw [am_u_nq (by omega)]; exact b6
  · exact (h'.2 x m hx).of (fun y hy => am_u_nq (by omega))
theorem sc_factn (hp : am_PF Pf) (hr : r = 16 ∨ r = 55) (hF : cFn Pf r) (hG : WG w) {I : am_I} (hK : cKw r I J w T) {s i j : Nat} (p1 : s < 8) (p2 : i ≤ j) (p3 : j ≤ T.1) (p4 : 0 < HHx w 3 T s i j) (hg : cGrn I w 3 T s i j) {k x d : Nat} (hk : k < (trW w T s i j).length) (hx5 : x ≤ 5)
    (kk : ∀ I', cKw r I' J w T → cGrn I' w 3 T s i j → (∀ o y, o ≠ 149 → o ≠ 152 → o ≠ 153 → I' o y = I o y) → P (.inl (some (.int (fxN w T ((trW w T s i j).getD k ndZ) x))), (am_SH, I', J, Pf), 0, 0)) : am_mth (d + 5) 137 [.ref 145, .int (ni k), .int (ni x)] (am_SH, I, J, Pf) P := by
  have h24 := hK.2.1.1.2.1
  have e1 : trW w T s i j = treeW w T (HHx w 3 T) s i j := if_neg (by omega)
  have hlen := trW_len (w := w) (T := T) (s := s) (i := i) (j := j)
  have hat := getD_at hk
  obtain ⟨o1, o2, o3, o4, o5⟩ := trW_ok hG p1 p2 p3 (getD_mem hk)
  obtain ⟨a1, a2, a3, a4, a5, a6⟩ := hg.2 k _ (by rw [← e1]; exact hat)
  have h9 : I 145 9 = ni (trW w T s i j).length := by rw [e1]; exact hg.1
  generalize hn : (trW w T s i j).getD k ndZ = n at *
  have m6 : ni k * 6 = ni (6 * k) := by rw [show (6 : Int32) = ni 6 from rfl, ni_mul, Nat.mul_comm]
  have nx6 : ∀ y, y ≤ 5 → (ni (6 * k + y)).toNatClampNeg = 6 * k + y ∧ am_in (ni (6 * k + y)) 1200 = true := fun y hy => ⟨ni_nat (by omega), ni_in (by omega) (by omega)⟩
  have fin : ∀ (I' : am_I), cKw r I' J w T → cGrn I' w 3 T s i j → (∀ o y, o ≠ 149 → o ≠ 152 → o ≠ 153 → I' o y = I o y) → (x = 4 → I' 149 (6 * k + 4) = wyM w T (pos (HHx w 3 T)) (QQx w 3 T) n.1 n.2.1 n.2.2.1) → am_go none (d + 4) 137 (80, [some (.ref 145), some (.int (ni k)), some (.int (ni x)), some (.int (ni (6 * k)))], [], (am_SH, I', J, Pf), 0, 0) P := by
    intro I' z1 z2 z3 z4
    obtain ⟨b1, b2, b3, b4, b5, b6⟩ := z2.2 k _ (by rw [← e1]; exact hat)
    refine v137_80 hp ?_
    rw [ni_add, (nx6 x hx5).1]
    refine ⟨(nx6 x hx5).2, ?_⟩
    have hkk := kk I' z1 z2 z3
    have x6 : x = 0 ∨ x = 1 ∨ x = 2 ∨ x = 3 ∨ x = 4 ∨ x = 5 := by omega
    rcases x6 with rfl | rfl | rfl | rfl | rfl | rfl
    · rw [Nat.add_zero, b1]; exact hkk
    · rw [b2]; exact hkk
    · rw [b3]; exact hkk
    · rw [b4]; exact hkk
    · rw [z4 rfl]; exact hkk
    · rw [b6]; exact hkk
  refine am_mth_of rfl rfl (v137_0 hp ?_)
  rw [if_neg (ni_ge0 (by omega)), h9, if_neg (fun z => absurd ((ni_le (by omega) (by omega)).mp z) (by omega)), if_neg (ni_ge0 (by omega)), if_pos ((llt 6 (by omega) (by omega)).mpr (by omega)), m6]
  by_cases c4 : x = 4
  · subst c4
    rw [if_pos (show ni 4 = 4 from rfl), show (4 : Int32) = ni 4 from rfl, ni_add, (nx6 4 (by omega)).1]
    refine ⟨(nx6 4 (by omega)).2, ?_⟩
    by_cases c1 : I 149 (6 * k + 4) = -1
    · have n0 := nx6 0 (by omega)
      rw [Nat.add_zero] at n0
      rw [if_pos c1, ni_p1, ni_p2, n0.1, (nx6 1 (by omega)).1, (nx6 2 (by omega)).1, a1, a2, a3]
      refine ⟨n0.2, (nx6 1 (by omega)).2, (nx6 2 (by omega)).2, ?_⟩
      refine sc_ways (d := d) hp hr hF hG hK.1 hK.2.1 hK.2.2.1 o1 o2 o3 (fun I2 q1 => am_back (v137_79 hp ?_))
      rw [(nx6 4 (by omega)).1, cif_t o4]
      refine ⟨(nx6 4 (by omega)).2, ?_⟩
      have r1 : cGrn I2 w 3 T s i j := hg.of (q1 _ _ (by omega) (by omega)) (fun y => q1 _ _ (by omega) (by omega))
      have r2 : cGs I2 w 3 T := hK.2.2.2.2.2.of (fun y _ _ => q1 _ _ (by omega) (by omega)) (fun y => q1 _ _ (by omega) (by omega))
      have hat' : (trW w T s i j)[k]? = some n := hat
      refine fin _ (hK.mid hr hG (fun o y e1 e2 => by rw [am_u_nq (by omega)]; exact q1 o y (by omega) (by omega)) ?_ ?_) (r1.put hG h24 p1 p2 p3 p4 r1 p1 p2 p3 p4 hat') (fun o y e1 e2 e3 => by rw [am_u_nq (by omega)]; exact q1 o y (by omega) (by omega)) (fun _ => am_u_same)
      · rcases hK.2.2.2.2.1 with z | z
        · exact Or.inl (by rw [am_u_nq (by omega), q1 _ _ (by omega) (by omega)]; exact z)
        · exact Or.inr (z.of (by rw [am_u_nq (by omega)]; exact q1 _ _ (by omega) (by omega)) (fun y => by rw [am_u_nq (by omega)]; exact q1 _ _ (by omega) (by omega)))
      · intro s' i' j' u1 u2 u3 u4 u5 u6 u7
        rw [am_u_nq (by omega)] at u5 u6 u7
        exact r1.put hG h24 p1 p2 p3 p4 (r2 s' i' j' u1 u2 u3 u4 u5 u6 u7) u1 u2 u3 u4 hat'
    · rw [if_neg c1]
      refine fin I hK hg (fun _ _ _ _ _ => rfl) (fun _ => ?_)
      rcases a5 with z | z
      · exact absurd z c1
      · exact z
  · rw [if_neg (fun z => c4 ((leq 4 (by omega) (by omega)).mp z))]
    exact fin I hK hg (fun _ _ _ _ _ => rfl) (fun z => absurd z c4)
theorem cKw.grn {I : am_I} (h : cKw r I J w T) {I' : am_I} {s : Nat} (hg : 0 < HHx w 3 T s 0 T.1 → cGrn I' w 3 T s 0 T.1) : 0 < HHx w 3 T s 0 T.1 → I' 145 9 = ni (trW w T s 0 T.1).length := fun z => by
  have := (hg z).1
  unfold trW
  rw [if_neg (by omega)]
  exact this
theorem sc_node (hp : am_PF Pf) (hr : r = 16 ∨ r = 55) (hF : cFn Pf r) (hG : WG w) (hs : sndW w) {I : am_I} (hQ : cQ r I J w T) {D : Nat} (hD : 130 ≤ D) {x1 x2 x3 : Int32} (kk : cA P Pf r w T I J (qNd w T x1 x2 x3)) : am_mth D 161 [.ref 0, .int x1, .int x2, .int x3] (am_SH, I, J, Pf) P := by
  obtain ⟨D', rfl⟩ : ∃ D', D = D' + 10 := ⟨D - 10, by omega⟩
  have h24 := hQ.2.1.2.1
  have bad : ¬ (inW x1 7 ∧ inW x2 2147483647 ∧ inW x3 5) → P (.inr 1, (am_SH, am_u I 0 19 (I 0 19 + 1), J, Pf), 1, 6) := fun hb => by
    unfold qNd at kk
    rw [cif_f hb] at kk
    exact kk
  refine am_mth_of rfl rfl (v161_0 hp ?_)
  refine sc_nsort (d := D' + 2) hp (fun s hs1 h8 => am_back (v161_5 hp ?_)) (fun hb => am_thru rfl (bad (fun z => hb z.1)))
  rw [show (2147483647 : Int32) = ni 2147483647 from rfl]
  refine sc_in (d := D' + 3) (n := 2147483647) hp (by omega) (fun x hx1 hx5 => am_back (v161_14 hp ?_)) (fun hb => am_thru rfl (bad (fun z => hb z.2.1)))
  refine sc_in (d := D' + 3) (n := 5) hp (by omega) (fun k hk1 hk5 => am_back (v161_21 hp ?_)) (fun hb => am_thru rfl (bad (fun z => hb z.2.2)))
  clear bad
  subst hs1 hx1 hk1
  rw [qNd_t (by omega) hx5 hk5] at kk
  refine sc_gk hp hr hF hG hs hQ (by omega) (fun I' J' a1 a2 a3 a4 => am_back (v161_25 hp ?_))
  rw [a1.2.1.1.1, show (0 : Int32) = ni 0 from rfl]
  refine sc_grow (d := D' + 2) hp hr hF hG hs a1.1 a1.2.1 a1.2.2.1 a1.2.2.2.2.1 a1.2.2.2.2.2 h8 (Nat.zero_le _) (Nat.le_refl _) (fun I2 b1 b2 b3 b4 => am_back (v161_42 hp ?_))
  have hlen := trW_len (w := w) (T := T) (s := s) (i := 0) (j := T.1)
  have e1 : (if HHx w 3 T s 0 T.1 = 0 then (0 : Int32) else ni (treeW w T (HHx w 3 T) s 0 T.1).length) = ni (trW w T s 0 T.1).length := by
    unfold trW
    split <;> rfl
  rw [e1]
  have c1 : cKw r I2 J' w T := a1.mid hr hG (fun o k e1 e2 => b3 o k (by omega) (by omega)) b1 b2
  have c2 : cQf I I2 := a2.trans (fun o k e1 e2 e3 e4 e5 => b3 o k (by omega) (by omega))
  unfold aNd at kk
  by_cases c6 : x < (trW w T s 0 T.1).length
  · rw [if_pos ((ni_lt (by omega) (by omega)).mpr c6)]
    rw [if_pos c6] at kk
    have hpos : 0 < HHx w 3 T s 0 T.1 := by
      rcases Nat.eq_zero_or_pos (HHx w 3 T s 0 T.1) with z | z
      · unfold trW at c6
        rw [if_pos z] at c6
        exact absurd c6 (by simp)
      · exact z
    refine sc_factn (d := D' + 4) hp hr hF hG c1 h8 (Nat.zero_le _) (Nat.le_refl _) hpos (b4 hpos) c6 hk5 (fun I3 d1 d2 d3 => am_back (v161_56 hp ?_))
    exact kk I3 J' d1.q (c2.trans (fun o k e1 e2 e3 e4 e5 => d3 o k (by omega) (by omega) (by omega))) a3
  · rw [if_neg (fun z => c6 ((ni_lt (by omega) (by omega)).mp z))]
    rw [if_neg c6] at kk
    exact kk I2 J' c1.q c2 a3
noncomputable def aWoc (w : Nat → Int32) (T : TX) (L : LW) (s : Nat) : Int32 := smW (fun n => lwVal L (fxN w T n)) (trW w T s 0 T.1) (trW w T s 0 T.1).length
theorem sc_wo (hp : am_PF Pf) (hr : r = 16 ∨ r = 55) (hF : cFn Pf r) (hG : WG w) (hs : sndW w) {I : am_I} (hQ : cQ r I J w T) {x : Nat} (hx : x = 94 ∨ x = 98) (hx4 : Pf 0 4 = some x) {L : LW} (hL : lwWf L 1) (h150 : L.1 ≤ 150) (hv : ∀ i, i < L.1 → (L.2 i).2 < 10000) (hcL : cLw x I L) {D : Nat} (hD : 130 ≤ D) {x1 : Int32} (kk : cA P Pf r w T I J (qSt 7 (aWoc w T L) x1)) : am_mth D 162 [.ref 0, .int x1] (am_SH, I, J, Pf) P := by
  obtain ⟨D', rfl⟩ : ∃ D', D = D' + 10 := ⟨D - 10, by omega⟩
  have h24 := hQ.2.1.2.1
  have hsx : am_SH[x]? = some (.inl 2) := by rcases hx with rfl | rfl <;> rfl
  have hsx3 : am_SH[x + 3]? = some (.inr (0, 150)) := by rcases hx with rfl | rfl <;> rfl
  refine am_mth_of rfl rfl (v162_0 hp ?_)
  refine sc_nsort (d := D' + 2) hp (fun s hs1 h8 => am_back (v162_5 hp ?_)) (fun hb => am_thru rfl ?_)
  · subst hs1
    rw [qSt_t (by omega) (by omega)] at kk
    refine sc_gk hp hr hF hG hs hQ (by omega) (fun I' J' a1 a2 a3 a4 => am_back (v162_9 hp ⟨x, hx4, hsx, ?_⟩))
    rw [a1.2.1.1.1, show (0 : Int32) = ni 0 from rfl]
    refine sc_grow (d := D' + 2) hp hr hF hG hs a1.1 a1.2.1 a1.2.2.1 a1.2.2.2.2.1 a1.2.2.2.2.2 h8 (Nat.zero_le _) (Nat.le_refl _) (fun I2 b1 b2 b3 b4 => am_back (v162_33 hp hsx ?_))
    have hlen := trW_len (w := w) (T := T) (s := s) (i := 0) (j := T.1)
    have e1 : (if HHx w 3 T s 0 T.1 = 0 then (0 : Int32) else ni (treeW w T (HHx w 3 T) s 0 T.1).length) = ni (trW w T s 0 T.1).length := by
      unfold trW
      split <;> rfl
    rw [e1]
    have c1 : cKw r I2 J' w T := a1.mid hr hG (fun o k e1 e2 => b3 o k (by omega) (by omega)) b1 b2
    have c2 : cQf I I2 := a2.trans (fun o k e1 e2 e3 e4 e5 => b3 o k (by omega) (by omega))
    have c3 : cLw x I2 L := by
      have hE : ∀ o k, o ≠ 0 → x ≤ o → o ≤ x + 2 → I2 o k = I o k := fun o k e0 e1 e2 => c2 o k (by omega) (by omega) (by omega) (by omega) (by omega)
      exact ⟨by rw [hE _ _ (by omega) (by omega) (by omega)]; exact hcL.1, fun i hi => by rw [hE _ _ (by omega) (by omega) (by omega), hE _ _ (by omega) (by omega) (by omega)]; exact hcL.2 i hi⟩
    let Inv : am_I → Prop := fun I3 => cKw r I3 J' w T ∧ cQf I I3 ∧ (0 < HHx w 3 T s 0 T.1 → cGrn I3 w 3 T s 0 T.1)
    have hInv : ∀ (I3 : am_I) (k : Nat) (v : Int32), Inv I3 → Inv (am_u I3 (x + 3) k v) := by
      rintro I3 k v ⟨z1, z2, z3⟩
      refine ⟨z1.mid hr hG (fun o y q1 q2 => am_u_nq (by omega)) ?_ (z1.2.2.2.2.2.of (fun y _ _ => am_u_nq (by omega)) (fun y => am_u_nq (by omega))), z2.trans (fun o y q1 q2 q3 q4 q5 => am_u_nq (by omega)), fun z => (z3 z).of (am_u_nq (by omega)) (fun y => am_u_nq (by omega))⟩
      rcases z1.2.2.2.2.1 with u | u
      · exact Or.inl (by rw [am_u_nq (by omega)]; exact u)
      · exact Or.inr (u.of (am_u_nq (by omega)) (fun y => am_u_nq (by omega)))
    have LP : ∀ (m k : Nat) (I3 : am_I), (trW w T s 0 T.1).length - k = m → k ≤ (trW w T s 0 T.1).length → Inv I3 → cLw x I3 L → am_go none (D' + 8) 138 (5, [some (.ref 145), some (.ref x), some (.int (ni (trW w T s 0 T.1).length)), some (.int (smW (fun n => lwVal L (fxN w T n)) (trW w T s 0 T.1) k)), some (.int (ni k))], [], (am_SH, I3, J', Pf), 0, 0) (am_af none (D' + 9) 162 33 [some (.ref 0), some (.int (ni s))] [.int (ni (trW w T s 0 T.1).length), .ref x, .ref 145] [] (am_SH, I2, J', Pf) 0 0 false P) := by
      intro m
      induction m with
      | zero =>
        intro k I3 hm hk hi hl
        have : k = (trW w T s 0 T.1).length := by omega
        subst this
        refine v138_5 hp hsx ?_
        rw [if_pos ((ni_le (by omega) (by omega)).mpr (Nat.le_refl _))]
        exact am_back (v162_36 hp (kk I3 J' hi.1.q hi.2.1 a3))
      | succ m ih =>
        intro k I3 hm hk hi hl
        have c6 : k < (trW w T s 0 T.1).length := by omega
        have hpos : 0 < HHx w 3 T s 0 T.1 := by
          rcases Nat.eq_zero_or_pos (HHx w 3 T s 0 T.1) with z | z
          · unfold trW at c6
            rw [if_pos z] at c6
            exact absurd c6 (by simp)
          · exact z
        refine v138_5 hp hsx ?_
        rw [if_neg (fun z => absurd ((ni_le (by omega) (by omega)).mp z) (by omega))]
        refine sc_value (d := D' + 5) (f := fxN w T ((trW w T s 0 T.1).getD k ndZ)) hp hsx hsx3 hL h150 hv hInv (fun I4 i Q g1 g2 g3 => ?_) hi hl (fun I4 g1 g2 => am_back (v138_19 hp hsx ?_))
        · refine sc_factn (d := D' + 2) hp hr hF hG g1.1 h8 (Nat.zero_le _) (Nat.le_refl _) hpos (g1.2.2 hpos) c6 g2 (fun I5 u1 u2 u3 => g3 I5 ⟨u1, g1.2.1.trans (fun o y q1 q2 q3 q4 q5 => u3 o y (by omega) (by omega) (by omega)), fun _ => u2⟩ (fun o y q1 q2 => u3 o y (by omega) (by omega) (by omega)))
        · rw [ni_p1 k]
          exact ih (k + 1) I4 (by omega) (by omega) g1 g2
    refine am_mth_of rfl rfl (v138_0 hp hsx ?_)
    have := LP _ 0 I2 rfl (Nat.zero_le _) ⟨c1, c2, b4⟩ c3
    exact this
  · rw [qSt_f hb] at kk
    exact kk
end CND
