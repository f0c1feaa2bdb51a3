/-! A law's entries: the class works them off -/
section LWY
variable {d x : Nat} {P : am_O → Prop} {J : am_J} {Pf : am_R}
theorem i_lt_le {a b : Int32} (h : ¬ a < b) : b ≤ a := Int32.not_lt.mp h
theorem sc_combine (hp : am_PF Pf) {k : Nat} (h2 : 2 ≤ k) (h8 : k ≤ 8) {a c : Int32} {I : am_I} (kk : P (.inl (some (.int (lwBin k a c))), (am_SH, I, J, Pf), 0, 0)) : am_mth (d + 2) 49 [.int (ni (cK k)), .int a, .int c] (am_SH, I, J, Pf) P := by
  refine am_mth_of rfl rfl (v49_0 hp ?_)
  unfold lwBin at kk
  have hk : k = 2 ∨ k = 3 ∨ k = 4 ∨ k = 5 ∨ k = 6 ∨ k = 7 ∨ k = 8 := by omega
  rcases hk with rfl | rfl | rfl | rfl | rfl | rfl | rfl
  · rw [if_pos rfl] at kk
    rw [if_neg (by decide), if_neg (by decide), if_neg (by decide), if_pos (by decide)]
    exact kk
  · rw [if_neg (by decide), if_pos rfl] at kk
    rw [if_neg (by decide), if_neg (by decide), if_neg (by decide), if_neg (by decide), if_pos (by decide)]
    exact kk
  · rw [if_neg (by decide), if_neg (by decide), if_pos rfl] at kk
    rw [if_neg (by decide), if_neg (by decide), if_pos (by decide)]
    exact kk
  · rw [if_neg (by decide), if_neg (by decide), if_neg (by decide), if_pos rfl] at kk
    rw [if_neg (by decide), if_neg (by decide), if_neg (by decide), if_neg (by decide), if_neg (by decide), if_pos (by decide)]
    by_cases y0 : c = 0
    · rw [if_pos y0] at kk ⊢; exact kk
    · rw [if_neg y0] at kk ⊢; exact ⟨y0, kk⟩
  · rw [if_neg (by decide), if_neg (by decide), if_neg (by decide), if_neg (by decide), if_neg (by decide), if_pos rfl] at kk
    rw [if_pos (by decide)]
    by_cases y0 : c < a
    · rw [if_pos (Int32.le_of_lt y0)] at kk
      rw [if_pos y0]; exact kk
    · rw [if_neg y0]
      by_cases y1 : c ≤ a
      · rw [if_pos y1] at kk
        have : c = a := Int32.le_antisymm y1 (i_lt_le y0)
        rw [← this]; exact kk
      · rw [if_neg y1] at kk; exact kk
  · rw [if_neg (by decide), if_neg (by decide), if_neg (by decide), if_neg (by decide), if_neg (by decide), if_neg (by decide)] at kk
    rw [if_neg (by decide), if_neg (by decide), if_neg (by decide), if_neg (by decide), if_neg (by decide), if_neg (by decide)]
    by_cases y0 : a < c
    · rw [if_neg (fun z => Int32.lt_irrefl (Int32.lt_of_lt_of_le y0 z))] at kk
      rw [if_pos y0]; exact kk
    · rw [if_pos (i_lt_le y0)] at kk
      rw [if_neg y0]; exact kk
  · rw [if_neg (by decide), if_neg (by decide), if_neg (by decide), if_neg (by decide), if_pos rfl] at kk
    rw [if_neg (by decide), if_pos (by decide)]
    by_cases y0 : c = 0
    · rw [if_pos y0] at kk ⊢; exact kk
    · rw [if_neg y0] at kk ⊢; exact ⟨y0, kk⟩
theorem sc_value (hp : am_PF Pf) (hx : am_SH[x]? = some (.inl 2)) (hx3 : am_SH[x + 3]? = some (.inr (0, 150))) {L : LW} {f : Nat → Int32} {nd : Int32} (hL : lwWf L 1) (h150 : L.1 ≤ 150) (hv : ∀ i, i < L.1 → (L.2 i).2 < 10000)
    {Inv : am_I → Prop} (hI : ∀ (I : am_I) (k : Nat) (v : Int32), Inv I → Inv (am_u I (x + 3) k v))
    (hfact : ∀ (I : am_I) (i : Nat) (Q : am_O → Prop), Inv I → i ≤ 5 → (∀ I', Inv I' → (∀ o k, x ≤ o → o ≤ x + 3 → I' o k = I o k) → Q (.inl (some (.int (f i))), (am_SH, I', J, Pf), 0, 0)) → am_mth (d + 2) 137 [.ref 145, .int nd, .int (ni i)] (am_SH, I, J, Pf) Q)
    {I : am_I} (h0 : Inv I) (hE : cLw x I L)
    (kk : ∀ I', Inv I' → cLw x I' L → P (.inl (some (.int (lwVal L f))), (am_SH, I', J, Pf), 0, 0)) : am_mth (d + 3) 48 [.ref x, .ref 145, .int nd] (am_SH, I, J, Pf) P := by
  have LP : ∀ (m i : Nat) (I1 : am_I) (l5 : Option Value), L.1 - i = m → i ≤ L.1 → Inv I1 → cLw x I1 L → (∀ j, j < lwDp L i → I1 (x + 3) j = lwSt L f i j) → am_go none (d + 2) 48 (5, [some (.ref x), some (.ref 145), some (.int nd), some (.int (ni (lwDp L i))), some (.int (ni i)), l5], [], (am_SH, I1, J, Pf), 0, 0) P := by
    intro m
    induction m with
    | zero =>
      intro i I1 l5 hm hi hfr hE1 hs
      have : i = L.1 := by omega
      subst this
      refine v48_5 hp hx ?_
      rw [hE1.1, if_pos ((ni_le (by omega) (by omega)).mpr (by omega))]
      have e0 : I1 (x + 3) 0 = lwVal L f := hs 0 (by rw [hL.2]; omega)
      rw [e0]
      exact kk I1 hfr hE1
    | succ m ih =>
      intro i I1 l5 hm hi hfr hE1 hs
      have hi' : i < L.1 := by omega
      obtain ⟨w1, w2, w3⟩ := hL.1 i hi'
      have dle := lwDp_le L i
      have v9 := hv i hi'
      obtain ⟨E1, E2⟩ := hE1.2 i hi'
      have up : ∀ (I2 : am_I) (k : Nat) (v : Int32), cLw x I2 L → cLw x (am_u I2 (x + 3) k v) L := fun I2 k v h => ⟨by rw [am_u_nq (by omega)]; exact h.1, fun i hi => by rw [am_u_nq (by omega), am_u_nq (by omega)]; exact h.2 i hi⟩
      have ed : lwDp L (i + 1) = if (L.2 i).1 ≤ 1 then lwDp L i + 1 else lwDp L i - 1 := rfl
      refine v48_5 hp hx ?_
      rw [hE1.1, if_neg (fun z => absurd ((ni_le (by omega) (by omega)).mp z) (by omega)), show (ni i).toNatClampNeg = i from ni_nat (by omega), E1, E2, ni_p1 i]
      refine ⟨ni_in (by omega) (by omega), ?_⟩
      by_cases k0 : (L.2 i).1 = 0
      · have eD : lwDp L (i + 1) = lwDp L i + 1 := by rw [ed, if_pos (by omega)]
        rw [if_pos (show ni (cK (L.2 i).1) = 0 by rw [k0]; rfl), if_pos ((llt 150 (by omega) (by omega)).mpr (by omega)), show (ni (lwDp L i)).toNatClampNeg = lwDp L i from ni_nat (by omega), ni_p1, ← eD]
        refine ⟨ni_in (by omega) (by omega), ni_in (by omega) (by omega), ih (i + 1) _ _ (by omega) (by omega) (hI _ _ _ hfr) (up _ _ _ hE1) (fun j hj => ?_)⟩
        show _ = (if (L.2 i).1 = 0 then _ else _)
        rw [if_pos k0]
        by_cases c : j = lwDp L i
        · subst c; rw [am_u_same, if_pos rfl]
        · rw [am_u_nq (by omega), if_neg c]; exact hs j (by omega)
      by_cases k1 : (L.2 i).1 = 1
      · have eD : lwDp L (i + 1) = lwDp L i + 1 := by rw [ed, if_pos (by omega)]
        rw [if_neg (show ¬ ni (cK (L.2 i).1) = 0 by rw [k1]; decide), if_pos (show ni (cK (L.2 i).1) = 1 by rw [k1]; rfl), if_pos ((llt 150 (by omega) (by omega)).mpr (by omega))]
        refine ⟨ni_in (by omega) (by omega), hfact I1 (L.2 i).2 _ hfr (w2 k1) (fun I2 g1 g2 => am_back (v48_75 hp hx hx3 ?_))⟩
        have hE2 : cLw x I2 L := ⟨by rw [g2 _ _ (by omega) (by omega)]; exact hE1.1, fun i hi => by rw [g2 _ _ (by omega) (by omega), g2 _ _ (by omega) (by omega)]; exact hE1.2 i hi⟩
        rw [show (ni (lwDp L i)).toNatClampNeg = lwDp L i from ni_nat (by omega), ni_p1, ni_p1, ← eD]
        refine ⟨ni_in (by omega) (by omega), ih (i + 1) _ _ (by omega) (by omega) (hI _ _ _ g1) (up _ _ _ hE2) (fun j hj => ?_)⟩
        show _ = (if (L.2 i).1 = 0 then _ else if (L.2 i).1 = 1 then _ else _)
        rw [if_neg k0, if_pos k1]
        by_cases c : j = lwDp L i
        · subst c; rw [am_u_same, if_pos rfl]
        · rw [am_u_nq (by omega), if_neg c, g2 _ _ (by omega) (by omega)]; exact hs j (by omega)
      have d2 := w3 (by omega)
      have eD : lwDp L (i + 1) = lwDp L i - 1 := by rw [ed, if_neg (by omega)]
      have nk : ¬ ni (cK (L.2 i).1) = 0 ∧ ¬ ni (cK (L.2 i).1) = 1 := by
        have : (L.2 i).1 = 2 ∨ (L.2 i).1 = 3 ∨ (L.2 i).1 = 4 ∨ (L.2 i).1 = 5 ∨ (L.2 i).1 = 6 ∨ (L.2 i).1 = 7 ∨ (L.2 i).1 = 8 := by omega
        rcases this with h | h | h | h | h | h | h <;> rw [h] <;> decide
      have e1 : ni (lwDp L i) + -1 = ni (lwDp L i - 1) := by rw [← Int32.sub_eq_add_neg]; exact ni_sub (a := lwDp L i) (b := 1) (by omega)
      have e2 : ni (lwDp L i - 1) - 1 = ni (lwDp L i - 2) := by rw [show lwDp L i - 2 = lwDp L i - 1 - 1 by omega]; exact ni_sub (a := lwDp L i - 1) (b := 1) (by omega)
      rw [if_neg nk.1, if_neg nk.2, if_pos ((gle 2 (by omega) (by omega)).mpr d2), e1, e2, show (ni (lwDp L i - 2)).toNatClampNeg = lwDp L i - 2 from ni_nat (by omega), show (ni (lwDp L i - 1)).toNatClampNeg = lwDp L i - 1 from ni_nat (by omega), hs _ (by omega), hs _ (by omega)]
      refine ⟨ni_in (by omega) (by omega), ni_in (by omega) (by omega), sc_combine (d := d) hp (by omega) w1 (am_back (v48_118 hp hx hx3 ?_))⟩
      rw [show (ni (lwDp L i - 2)).toNatClampNeg = lwDp L i - 2 from ni_nat (by omega), ni_p1, ← eD]
      refine ⟨ni_in (by omega) (by omega), ih (i + 1) _ _ (by omega) (by omega) (hI _ _ _ hfr) (up _ _ _ hE1) (fun j hj => ?_)⟩
      show _ = (if (L.2 i).1 = 0 then _ else if (L.2 i).1 = 1 then _ else _)
      rw [if_neg k0, if_neg k1]
      by_cases c : j = lwDp L i - 2
      · subst c; rw [am_u_same, if_pos rfl, eD]
      · rw [am_u_nq (by omega), if_neg c]; exact hs j (by omega)
  refine am_mth_of rfl rfl (v48_0 hp hx ?_)
  rw [show (0 : Int32) = ni 0 from rfl]
  exact LP L.1 0 I _ rfl (Nat.zero_le _) h0 hE (fun j hj => absurd hj (by show ¬ j < 0; omega))
end LWY
