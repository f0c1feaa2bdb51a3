/-! Texts: signs put in, taken out, changed about; the class and the reference -/
abbrev TX := Nat × (Nat → Int32)
def txIns (T : TX) (p k : Nat) (s : Nat → Int32) : TX := (T.1 + k, fun i => if i < p then T.2 i else if i < p + k then s (i - p) else T.2 (i - k))
def txCut (T : TX) (p k : Nat) : TX := (T.1 - k, fun i => if i < p then T.2 i else T.2 (i + k))
def txSwp (T : TX) (i j : Nat) : TX := (T.1, fun a => if a = j then T.2 i else if a = i then T.2 j else T.2 a)
def cTx (x : Nat) (I : am_I) (T : TX) : Prop := I x 1 = ni T.1 ∧ T.1 ≤ 24 ∧ ∀ i, i < T.1 → I (x + 1) i = T.2 i
def rTx (a : Nat) (I : am_I) (T : TX) : Prop := I a 0 = ni T.1 ∧ T.1 ≤ 24 ∧ ∀ i, i < T.1 → I a (1 + i) = T.2 i
/-- a table's text alone has changed -/
def cTf (x : Nat) (I I' : am_I) : Prop := ∀ o k, ¬ (o = x ∧ k = 1) → o ≠ x + 1 → I' o k = I o k
section TXC
variable {d x : Nat} {P : am_O → Prop} {J : am_J} {Pf : am_R} {T : TX}
theorem sc_room (hp : am_PF Pf) (hx : am_SH[x]? = some (.inl 9)) {I : am_I} {p k : Nat} (hT : cTx x I T) (hpl : p ≤ T.1) (hk : T.1 + k ≤ 24) (h1 : 1 ≤ k)
    (kk : ∀ I', I' x 1 = ni (T.1 + k) → (∀ i, i < p → I' (x + 1) i = T.2 i) → (∀ i, p ≤ i → i < T.1 → I' (x + 1) (i + k) = T.2 i) → cTf x I I' → P (.inl none, (am_SH, I', J, Pf), 0, 0)) : am_mth (d + 1) 110 [.ref x, .int (ni p), .int (ni k)] (am_SH, I, J, Pf) P := by
  have LP : ∀ (m c : Nat) (I1 : am_I) (v : Int32), c - p = m → p ≤ c → c ≤ T.1 → v = ni c - 1 → (∀ o j, o ≠ x + 1 → I1 o j = I o j) → (∀ i, i < c → I1 (x + 1) i = T.2 i) → (∀ i, c ≤ i → i < T.1 → I1 (x + 1) (i + k) = T.2 i) → am_go none d 110 (7, [some (.ref x), some (.int (ni p)), some (.int (ni k)), some (.int v)], [], (am_SH, I1, J, Pf), 0, 0) P := by
    intro m
    induction m with
    | zero =>
      intro c I1 v hm h2 h3 hv hf ha hb
      have : c = p := by omega
      subst this
      subst hv
      refine v110_7 hp hx ?_
      have lt : ni c - 1 < ni c := by
        by_cases c0 : c = 0
        · subst c0; decide
        · rw [show ni c - 1 = ni (c - 1) from ni_sub (b := 1) (by omega)]
          exact (ni_lt (by omega) (by omega)).mpr (by omega)
      rw [if_pos lt, hf _ _ (by omega), hT.1, ni_add]
      refine kk _ am_u_same (fun i hi => by rw [am_u_nq (by omega)]; exact ha i hi) (fun i h4 h5 => by rw [am_u_nq (by omega)]; exact hb i h4 h5) (fun o j e1 e2 => by rw [am_u_nq (by omega)]; exact hf o j e2)
    | succ m ih =>
      intro c I1 v hm h2 h3 hv hf ha hb
      subst hv
      have h24 := hT.2.1
      refine v110_7 hp hx ?_
      rw [show ni c - 1 = ni (c - 1) from ni_sub (b := 1) (by omega), if_neg (fun z => absurd ((ni_lt (by omega) (by omega)).mp z) (by omega)), ni_add, show (ni (c - 1 + k)).toNatClampNeg = c - 1 + k from ni_nat (by omega), show (ni (c - 1)).toNatClampNeg = c - 1 from ni_nat (by omega), ha _ (by omega)]
      refine ⟨ni_in (by omega) (by omega), ni_in (by omega) (by omega), ih (c - 1) _ _ (by omega) (by omega) (by omega) (Int32.sub_eq_add_neg _ _).symm (fun o j e => (am_u_nq (by omega)).trans (hf o j e)) (fun i hi => by rw [am_u_nq (by omega)]; exact ha i (by omega)) (fun i h4 h5 => ?_)⟩
      by_cases e : i = c - 1
      · subst e; rw [am_u_same]
      · rw [am_u_nq (by omega)]; exact hb i (by omega) h5
  refine am_mth_of rfl rfl (v110_0 hp hx ?_)
  rw [hT.1]
  exact LP _ T.1 I _ rfl hpl (Nat.le_refl _) rfl (fun _ _ _ => rfl) hT.2.2 (fun i h4 h5 => absurd h5 (by omega))
theorem sc_types (hp : am_PF Pf) (hx : am_SH[x]? = some (.inl 9)) {y Ly : Nat} (hy : am_SH[y]? = some (.inr (0, Ly))) (hLy : Ly < 100000) (hyx : y ≠ x ∧ y ≠ x + 1) {I : am_I} {p q k : Nat} (hT : cTx x I T) (hp2 : p < 100) (h1 : 1 ≤ k) (hk9 : k < 100) (hq : q + k ≤ Ly)
    (kk : if p ≤ T.1 ∧ T.1 + k ≤ 24 then ∀ I', cTx x I' (txIns T p k (fun i => I y (q + i))) → cTf x I I' → P (.inl (some (.int 1)), (am_SH, I', J, Pf), 0, 0) else P (.inl (some (.int 0)), (am_SH, I, J, Pf), 0, 0)) : am_mth (d + 2) 111 [.ref x, .int (ni p), .ref y, .int (ni q), .int (ni k)] (am_SH, I, J, Pf) P := by
  have h24 := hT.2.1
  refine am_mth_of rfl rfl (v111_0 hp hx hy ?_)
  rw [if_neg (ni_nonneg (by omega)), hT.1]
  by_cases c1 : T.1 < p
  · rw [if_neg (fun z => by omega)] at kk
    rw [if_pos ((ni_lt (by omega) (by omega)).mpr c1)]; exact kk
  rw [if_neg (fun z => c1 ((ni_lt (by omega) (by omega)).mp z)), if_neg (fun z => absurd ((llt 1 (by omega) (by omega)).mp z) (by omega)), ni_add]
  by_cases c2 : ¬ (T.1 + k ≤ 24)
  · rw [if_neg (fun z => c2 z.2)] at kk
    rw [if_neg (fun z => c2 ((lle 24 (by omega) (by omega)).mp z))]; exact kk
  replace c2 := Decidable.of_not_not c2
  rw [if_pos ⟨by omega, c2⟩] at kk
  rw [if_pos ((lle 24 (by omega) (by omega)).mpr c2)]
  refine sc_room (d := d) hp hx hT (by omega) c2 h1 (fun I1 a1 a2 a3 a4 => am_back (v111_39 hp hx hy ?_))
  have LP : ∀ (m c : Nat) (I2 : am_I), k - c = m → c ≤ k → (∀ o j, ¬ (o = x + 1 ∧ p ≤ j ∧ j < p + k) → I2 o j = I1 o j) → (∀ i, i < c → I2 (x + 1) (p + i) = I y (q + i)) → am_go none (d + 1) 111 (42, [some (.ref x), some (.int (ni p)), some (.ref y), some (.int (ni q)), some (.int (ni k)), some (.int (ni c))], [], (am_SH, I2, J, Pf), 0, 0) P := by
    intro m
    induction m with
    | zero =>
      intro c I2 hm hc hf hs
      have : c = k := by omega
      subst this
      refine v111_42 hp hx hy ?_
      rw [if_pos ((ni_le (by omega) (by omega)).mpr (by omega))]
      refine kk I2 ⟨by rw [hf _ _ (by omega)]; exact a1, c2, fun i hi => ?_⟩ (fun o j e1 e2 => by rw [hf o j (by omega)]; exact a4 o j e1 e2)
      have hi' : i < T.1 + c := hi
      show _ = (if i < p then T.2 i else if i < p + c then I y (q + (i - p)) else T.2 (i - c))
      by_cases i1 : i < p
      · rw [if_pos i1, hf _ _ (by omega)]; exact a2 i i1
      rw [if_neg i1]
      by_cases i2 : i < p + c
      · rw [if_pos i2]
        have := hs (i - p) (by omega)
        rwa [show p + (i - p) = i by omega] at this
      · rw [if_neg i2, hf _ _ (by omega)]
        have := a3 (i - c) (by omega) (by omega)
        rwa [show i - c + c = i by omega] at this
    | succ m ih =>
      intro c I2 hm hc hf hs
      refine v111_42 hp hx hy ?_
      rw [if_neg (fun z => absurd ((ni_le (by omega) (by omega)).mp z) (by omega)), ni_add, ni_add, show (ni (p + c)).toNatClampNeg = p + c from ni_nat (by omega), show (ni (q + c)).toNatClampNeg = q + c from ni_nat (by omega), hf y _ (by omega), a4 y _ (by omega) (by omega), ni_p1]
      refine ⟨ni_in (by omega) (by omega), ni_in (by omega) (by omega), ih (c + 1) _ (by omega) (by omega) (fun o j e => (am_u_nq (by omega)).trans (hf o j e)) (fun i hi => ?_)⟩
      by_cases e : i = c
      · subst e; exact am_u_same
      · rw [am_u_nq (by omega)]; exact hs i (by omega)
  rw [show (0 : Int32) = ni 0 from rfl]
  exact LP k 0 I1 rfl (Nat.zero_le _) (fun _ _ _ => rfl) (fun i hi => absurd hi (by omega))
theorem sc_cut (hp : am_PF Pf) (hx : am_SH[x]? = some (.inl 9)) {I : am_I} {p k : Nat} (hT : cTx x I T) (hp2 : p < 100) (hk9 : k < 100)
    (kk : if 1 ≤ k ∧ p + k ≤ T.1 then ∀ I', cTx x I' (txCut T p k) → cTf x I I' → P (.inl (some (.int 1)), (am_SH, I', J, Pf), 0, 0) else P (.inl (some (.int 0)), (am_SH, I, J, Pf), 0, 0)) : am_mth (d + 1) 113 [.ref x, .int (ni p), .int (ni k)] (am_SH, I, J, Pf) P := by
  have h24 := hT.2.1
  refine am_mth_of rfl rfl (v113_0 hp hx ?_)
  rw [if_neg (ni_nonneg (by omega)), hT.1, ni_add]
  by_cases c1 : ¬ (1 ≤ k)
  · rw [if_neg (fun z => c1 z.1)] at kk
    rw [if_pos ((llt 1 (by omega) (by omega)).mpr (by omega))]; exact kk
  replace c1 := Decidable.of_not_not c1
  rw [if_neg (fun z => absurd ((llt 1 (by omega) (by omega)).mp z) (by omega))]
  by_cases c2 : ¬ (p + k ≤ T.1)
  · rw [if_neg (fun z => c2 z.2)] at kk
    rw [if_neg (fun z => c2 ((ni_le (by omega) (by omega)).mp z))]; exact kk
  replace c2 := Decidable.of_not_not c2
  rw [if_pos ⟨c1, c2⟩] at kk
  rw [if_pos ((ni_le (by omega) (by omega)).mpr c2)]
  have LP : ∀ (m c : Nat) (I2 : am_I) (l1 : Option Value), T.1 - c = m → p + k ≤ c → c ≤ T.1 → (∀ o j, ¬ (o = x + 1 ∧ p ≤ j ∧ j + k < c) → I2 o j = I o j) → (∀ i, p ≤ i → i + k < c → I2 (x + 1) i = T.2 (i + k)) → am_go none d 113 (25, [some (.ref x), l1, some (.int (ni k)), some (.int (ni c))], [], (am_SH, I2, J, Pf), 0, 0) P := by
    intro m
    induction m with
    | zero =>
      intro c I2 l1 hm h1 hc hf hs
      have : c = T.1 := by omega
      subst this
      refine v113_25 hp hx ?_
      rw [hf x 1 (by omega), hT.1, if_pos ((ni_le (by omega) (by omega)).mpr (by omega)), show ni T.1 - ni k = ni (T.1 - k) from ni_sub (by omega)]
      refine kk _ ⟨am_u_same, by show T.1 - k ≤ 24; omega, fun i hi => ?_⟩ (fun o j e1 e2 => by rw [am_u_nq (by omega)]; exact hf o j (by omega))
      have hi' : i < T.1 - k := hi
      show _ = (if i < p then T.2 i else T.2 (i + k))
      rw [am_u_nq (by omega)]
      by_cases i1 : i < p
      · rw [if_pos i1, hf _ _ (by omega)]; exact hT.2.2 i (by omega)
      · rw [if_neg i1]; exact hs i (by omega) (by omega)
    | succ m ih =>
      intro c I2 l1 hm h1 hc hf hs
      refine v113_25 hp hx ?_
      rw [hf x 1 (by omega), hT.1, if_neg (fun z => absurd ((ni_le (by omega) (by omega)).mp z) (by omega)), show ni c - ni k = ni (c - k) from ni_sub (by omega), show (ni (c - k)).toNatClampNeg = c - k from ni_nat (by omega), show (ni c).toNatClampNeg = c from ni_nat (by omega), hf (x + 1) c (by omega), hT.2.2 c (by omega), ni_p1]
      refine ⟨ni_in (by omega) (by omega), ni_in (by omega) (by omega), ih (c + 1) _ _ (by omega) (by omega) (by omega) (fun o j e => (am_u_nq (by omega)).trans (hf o j (by omega))) (fun i h4 h5 => ?_)⟩
      by_cases e : i = c - k
      · subst e; rw [am_u_same, show c - k + k = c by omega]
      · rw [am_u_nq (by omega)]; exact hs i h4 (by omega)
  exact LP _ (p + k) I _ rfl (Nat.le_refl _) c2 (fun _ _ _ => rfl) (fun i h4 h5 => absurd h5 (by omega))
theorem sc_swap (hp : am_PF Pf) (hx : am_SH[x]? = some (.inl 9)) {I : am_I} {i j : Nat} (hT : cTx x I T) (hi : i < 100) (hj : j < 100)
    (kk : if i < T.1 ∧ j < T.1 ∧ T.2 i ≠ T.2 j then ∀ I', cTx x I' (txSwp T i j) → cTf x I I' → P (.inl (some (.int 1)), (am_SH, I', J, Pf), 0, 0) else P (.inl (some (.int 0)), (am_SH, I, J, Pf), 0, 0)) : am_mth (d + 1) 114 [.ref x, .int (ni i), .int (ni j)] (am_SH, I, J, Pf) P := by
  have h24 := hT.2.1
  refine am_mth_of rfl rfl (v114_0 hp hx ?_)
  rw [if_neg (ni_nonneg (by omega)), hT.1]
  by_cases c1 : ¬ (i < T.1)
  · rw [if_neg (fun z => c1 z.1)] at kk
    rw [if_pos ((ni_le (by omega) (by omega)).mpr (by omega))]; exact kk
  replace c1 := Decidable.of_not_not c1
  rw [if_neg (fun z => absurd ((ni_le (by omega) (by omega)).mp z) (by omega)), if_neg (ni_nonneg (by omega))]
  by_cases c2 : ¬ (j < T.1)
  · rw [if_neg (fun z => c2 z.2.1)] at kk
    rw [if_neg (fun z => c2 ((ni_lt (by omega) (by omega)).mp z))]; exact kk
  replace c2 := Decidable.of_not_not c2
  rw [if_pos ((ni_lt (by omega) (by omega)).mpr c2), show (ni i).toNatClampNeg = i from ni_nat (by omega), show (ni j).toNatClampNeg = j from ni_nat (by omega), hT.2.2 i c1, hT.2.2 j c2]
  have b1 : am_in (ni i) 24 = true := ni_in (by omega) (by omega)
  have b2' : am_in (ni j) 24 = true := ni_in (by omega) (by omega)
  refine ⟨b1, b2', ?_⟩
  by_cases c3 : T.2 i = T.2 j
  · rw [if_neg (fun z => z.2.2 c3)] at kk
    rw [if_pos c3]; exact kk
  rw [if_pos ⟨c1, c2, c3⟩] at kk
  rw [if_neg c3]
  refine ⟨b1, b2', b1, b2', kk _ ⟨by rw [am_u_nq (by omega), am_u_nq (by omega)]; exact hT.1, h24, fun a ha => ?_⟩ (fun o k e1 e2 => by rw [am_u_nq (by omega), am_u_nq (by omega)])⟩
  show _ = (if a = j then T.2 i else if a = i then T.2 j else T.2 a)
  by_cases a1 : a = j
  · subst a1; rw [am_u_same, if_pos rfl]
  · rw [am_u_nq (by omega), if_neg a1]
    by_cases a2 : a = i
    · subst a2; rw [am_u_same, if_pos rfl]
    · rw [am_u_nq (by omega), if_neg a2]; exact hT.2.2 a ha
end TXC
