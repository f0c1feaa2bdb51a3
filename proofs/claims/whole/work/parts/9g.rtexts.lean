/-! Texts: the reference edits them -/
/-- a row alone has changed -/
def rTf (a : Nat) (I I' : am_I) : Prop := ∀ o k, o ≠ a → I' o k = I o k
theorem z00 : Int32.toNatClampNeg 0 = 0 := rfl
section TXR
variable {d a La : Nat} {P : am_O → Prop} {J : am_J} {Pf : am_R} {T : TX}
theorem sr_types (hp : am_PF Pf) (ha : am_SH[a]? = some (.inr (0, La))) (hLa : 25 ≤ La) (hLa2 : La < 100000) {y Ly : Nat} (hy : am_SH[y]? = some (.inr (0, Ly))) (hLy : Ly < 100000) (hya : y ≠ a) {I : am_I} {p q k : Nat} (hT : rTx a I T) (hp2 : p < 100) (h1 : 1 ≤ k) (hk9 : k < 100) (hq : q + k ≤ Ly)
    (kk : if p ≤ T.1 ∧ T.1 + k ≤ 24 then ∀ I', rTx a I' (txIns T p k (fun i => I y (q + i))) → rTf a I I' → P (.inl (some (.int 1)), (am_SH, I', J, Pf), 0, 0) else P (.inl (some (.int 0)), (am_SH, I, J, Pf), 0, 0)) : am_mth (d + 1) 250 [.ref a, .int (ni p), .ref y, .int (ni q), .int (ni k)] (am_SH, I, J, Pf) P := by
  have h24 := hT.2.1
  have b0 : am_in 0 La = true := ni_in (a := 0) (by omega) (by omega)
  have z0 : ∀ I1 : am_I, I1 a (Int32.toNatClampNeg 0) = I1 a 0 := fun _ => rfl
  refine am_mth_of rfl rfl (v250_0 hp ha hy ?_)
  rw [z00, hT.1, ni_add]
  refine ⟨b0, ?_⟩
  by_cases c1 : T.1 < p
  · rw [if_neg (fun z => by omega)] at kk
    rw [if_pos ((ni_lt (by omega) (by omega)).mpr c1)]; exact kk
  rw [if_neg (fun z => c1 ((ni_lt (by omega) (by omega)).mp z))]
  refine ⟨b0, ?_⟩
  by_cases c2 : ¬ (T.1 + k ≤ 24)
  · rw [if_neg (fun z => c2 z.2)] at kk
    rw [if_neg (fun z => c2 ((lle 24 (by omega) (by omega)).mp z))]; exact kk
  replace c2 := Decidable.of_not_not c2
  rw [if_pos ⟨by omega, c2⟩] at kk
  rw [if_pos ((lle 24 (by omega) (by omega)).mpr c2)]
  refine ⟨b0, ?_⟩
  -- the new signs
  have LW : ∀ (m c : Nat) (I1 I2 : am_I), k - c = m → c ≤ k → (∀ o j, o ≠ a → I1 o j = I o j) → I1 a 0 = ni T.1 → (∀ i, i < p → I1 a (1 + i) = T.2 i) → (∀ i, p ≤ i → i < T.1 → I1 a (1 + i + k) = T.2 i) → (∀ o j, ¬ (o = a ∧ p + 1 ≤ j ∧ j < p + k + 1) → I2 o j = I1 o j) → (∀ i, i < c → I2 a (1 + p + i) = I y (q + i)) → am_go none d 250 (51, [some (.ref a), some (.int (ni p)), some (.ref y), some (.int (ni q)), some (.int (ni k)), some (.int (ni c))], [], (am_SH, I2, J, Pf), 0, 0) P := by
    intro m
    induction m with
    | zero =>
      intro c I1 I2 hm hc f1 f2 f3 f4 hf hs
      have : c = k := by omega
      subst this
      refine v250_51 hp ha hy ?_
      rw [z00, if_pos ((ni_le (by omega) (by omega)).mpr (by omega))]
      refine ⟨b0, b0, ?_⟩
      have e0 : I2 a 0 = ni T.1 := by rw [hf _ _ (by omega)]; exact f2
      have := kk (am_u I2 a 0 (ni (T.1 + c))) ⟨am_u_same, c2, fun i hi => ?_⟩ (fun o j e1 => by rw [am_u_nq (by omega), hf o j (by omega)]; exact f1 o j e1)
      · rw [← ni_add, ← e0] at this
        exact this
      have hi' : i < T.1 + c := hi
      show _ = (if i < p then T.2 i else if i < p + c then I y (q + (i - p)) else T.2 (i - c))
      rw [am_u_nq (by omega)]
      by_cases i1 : i < p
      · rw [if_pos i1, hf _ _ (by omega)]; exact f3 i i1
      rw [if_neg i1]
      by_cases i2 : i < p + c
      · rw [if_pos i2]
        have := hs (i - p) (by omega)
        rwa [show 1 + p + (i - p) = 1 + i by omega] at this
      · rw [if_neg i2, hf _ _ (by omega)]
        have := f4 (i - c) (by omega) (by omega)
        rwa [show 1 + (i - c) + c = 1 + i by omega] at this
    | succ m ih =>
      intro c I1 I2 hm hc f1 f2 f3 f4 hf hs
      refine v250_51 hp ha hy ?_
      rw [z00, if_neg (fun z => absurd ((ni_le (by omega) (by omega)).mp z) (by omega)), show (1 : Int32) + ni p = ni (1 + p) from ni_add 1 p, ni_add, ni_add, show (ni (1 + p + c)).toNatClampNeg = 1 + p + c from ni_nat (by omega), show (ni (q + c)).toNatClampNeg = q + c from ni_nat (by omega), hf y _ (by omega), f1 y _ hya, ni_p1]
      refine ⟨ni_in (by omega) (by omega), ni_in (by omega) (by omega), ih (c + 1) I1 _ (by omega) (by omega) f1 f2 f3 f4 (fun o j e => (am_u_nq (by omega)).trans (hf o j e)) (fun i hi => ?_)⟩
      by_cases e : i = c
      · subst e; exact am_u_same
      · rw [am_u_nq (by omega)]; exact hs i (by omega)
  -- room for them
  have LP : ∀ (m c : Nat) (I1 : am_I), c - p = m → p ≤ c → c ≤ T.1 → (∀ o j, o ≠ a → I1 o j = I o j) → I1 a 0 = ni T.1 → (∀ i, i < c → I1 a (1 + i) = T.2 i) → (∀ i, c ≤ i → i < T.1 → I1 a (1 + i + k) = T.2 i) → am_go none d 250 (25, [some (.ref a), some (.int (ni p)), some (.ref y), some (.int (ni q)), some (.int (ni k)), some (.int (ni c))], [], (am_SH, I1, J, Pf), 0, 0) P := by
    intro m
    induction m with
    | zero =>
      intro c I1 hm h2 h3 hf h0 hA hB
      have : c = p := by omega
      subst this
      refine v250_25 hp ha hy ?_
      rw [if_pos ((ni_le (by omega) (by omega)).mpr (by omega)), show (0 : Int32) = ni 0 from rfl]
      exact LW k 0 I1 I1 rfl (Nat.zero_le _) hf h0 hA hB (fun _ _ _ => rfl) (fun i hi => absurd hi (by omega))
    | succ m ih =>
      intro c I1 hm h2 h3 hf h0 hA hB
      refine v250_25 hp ha hy ?_
      rw [if_neg (fun z => absurd ((ni_le (by omega) (by omega)).mp z) (by omega)), ni_add, show (ni (c + k)).toNatClampNeg = c + k from ni_nat (by omega), show (ni c).toNatClampNeg = c from ni_nat (by omega), show ni c + -1 = ni (c - 1) by rw [← Int32.sub_eq_add_neg]; exact ni_sub (b := 1) (by omega)]
      have e9 : I1 a c = T.2 (c - 1) := by
        have := hA (c - 1) (by omega)
        rwa [show 1 + (c - 1) = c by omega] at this
      rw [e9]
      refine ⟨ni_in (by omega) (by omega), ni_in (by omega) (by omega), ih (c - 1) _ (by omega) (by omega) (by omega) (fun o j e => (am_u_nq (by omega)).trans (hf o j e)) (by rw [am_u_nq (by omega)]; exact h0) (fun i hi => by rw [am_u_nq (by omega)]; exact hA i (by omega)) (fun i h4 h5 => ?_)⟩
      by_cases e : i = c - 1
      · subst e; rw [show 1 + (c - 1) + k = c + k by omega, am_u_same]
      · rw [am_u_nq (by omega)]; exact hB i (by omega) h5
  exact LP _ T.1 I rfl (by omega) (Nat.le_refl _) (fun _ _ _ => rfl) hT.1 hT.2.2 (fun i h4 h5 => absurd h5 (by omega))
theorem sr_cut (hp : am_PF Pf) (ha : am_SH[a]? = some (.inr (0, La))) (hLa : 25 ≤ La) (hLa2 : La < 100000) {I : am_I} {p k : Nat} (hT : rTx a I T) (hp2 : p < 100) (hk9 : k < 100)
    (kk : if 1 ≤ k ∧ p + k ≤ T.1 then ∀ I', rTx a I' (txCut T p k) → rTf a I I' → P (.inl (some (.int 1)), (am_SH, I', J, Pf), 0, 0) else P (.inl (some (.int 0)), (am_SH, I, J, Pf), 0, 0)) : am_mth (d + 1) 251 [.ref a, .int (ni p), .int (ni k)] (am_SH, I, J, Pf) P := by
  have h24 := hT.2.1
  have b0 : am_in 0 La = true := ni_in (a := 0) (by omega) (by omega)
  refine am_mth_of rfl rfl (v251_0 hp ha ?_)
  have k0 : (ni k = 0) ↔ k = 0 := leq 0 (by omega) (by omega)
  by_cases c1 : ¬ (1 ≤ k)
  · rw [if_neg (fun z => c1 z.1)] at kk
    rw [if_pos (k0.mpr (by omega))]; exact kk
  replace c1 := Decidable.of_not_not c1
  rw [if_neg (fun z => absurd (k0.mp z) (by omega)), ni_add, z00, hT.1]
  refine ⟨b0, ?_⟩
  by_cases c2 : ¬ (p + k ≤ T.1)
  · rw [if_neg (fun z => c2 z.2)] at kk
    rw [if_neg (fun z => c2 ((ni_le (by omega) (by omega)).mp z))]; exact kk
  replace c2 := Decidable.of_not_not c2
  rw [if_pos ⟨c1, c2⟩] at kk
  rw [if_pos ((ni_le (by omega) (by omega)).mpr c2)]
  have LP : ∀ (m c : Nat) (I2 : am_I) (l1 : Option Value), T.1 - c = m → p + k ≤ c → c ≤ T.1 → (∀ o j, ¬ (o = a ∧ p + 1 ≤ j ∧ j + k < c + 1) → I2 o j = I o j) → (∀ i, p ≤ i → i + k < c → I2 a (1 + i) = T.2 (i + k)) → am_go none d 251 (19, [some (.ref a), l1, some (.int (ni k)), some (.int (ni c))], [], (am_SH, I2, J, Pf), 0, 0) P := by
    intro m
    induction m with
    | zero =>
      intro c I2 l1 hm h1 hc hf hs
      have : c = T.1 := by omega
      subst this
      refine v251_19 hp ha ?_
      rw [z00, hf a 0 (by omega), hT.1, if_pos ((ni_le (by omega) (by omega)).mpr (by omega)), show ni T.1 - ni k = ni (T.1 - k) from ni_sub (by omega)]
      refine ⟨b0, b0, b0, kk _ ⟨am_u_same, by show T.1 - k ≤ 24; omega, fun i hi => ?_⟩ (fun o j e1 => by rw [am_u_nq (by omega)]; exact hf o j (by omega))⟩
      have hi' : i < T.1 - k := hi
      show _ = (if i < p then T.2 i else T.2 (i + k))
      rw [am_u_nq (by omega)]
      by_cases i1 : i < p
      · rw [if_pos i1, hf _ _ (by omega)]; exact hT.2.2 i (by omega)
      · rw [if_neg i1]; exact hs i (by omega) (by omega)
    | succ m ih =>
      intro c I2 l1 hm h1 hc hf hs
      refine v251_19 hp ha ?_
      rw [z00, hf a 0 (by omega), hT.1, if_neg (fun z => absurd ((ni_le (by omega) (by omega)).mp z) (by omega)), show (1 : Int32) + ni c = ni (1 + c) from ni_add 1 c, show ni (1 + c) - ni k = ni (1 + c - k) from ni_sub (by omega), show (ni (1 + c - k)).toNatClampNeg = 1 + c - k from ni_nat (by omega), show (ni (1 + c)).toNatClampNeg = 1 + c from ni_nat (by omega), hf a (1 + c) (by omega), hT.2.2 c (by omega), ni_p1]
      refine ⟨b0, ni_in (by omega) (by omega), ni_in (by omega) (by omega), ih (c + 1) _ _ (by omega) (by omega) (by omega) (fun o j e => (am_u_nq (by omega)).trans (hf o j (by omega))) (fun i h4 h5 => ?_)⟩
      by_cases e : i = c - k
      · subst e; rw [show 1 + (c - k) = 1 + c - k by omega, am_u_same, show c - k + k = c by omega]
      · rw [am_u_nq (by omega)]; exact hs i h4 (by omega)
  exact LP _ (p + k) I _ rfl (Nat.le_refl _) c2 (fun _ _ _ => rfl) (fun i h4 h5 => absurd h5 (by omega))
theorem sr_swap (hp : am_PF Pf) (ha : am_SH[a]? = some (.inr (0, La))) (hLa : 25 ≤ La) (hLa2 : La < 100000) {I : am_I} {i j : Nat} (hT : rTx a I T) (hi : i < 100) (hj : j < 100)
    (kk : if i < T.1 ∧ j < T.1 ∧ T.2 i ≠ T.2 j then ∀ I', rTx a I' (txSwp T i j) → rTf a I I' → P (.inl (some (.int 1)), (am_SH, I', J, Pf), 0, 0) else P (.inl (some (.int 0)), (am_SH, I, J, Pf), 0, 0)) : am_mth (d + 1) 252 [.ref a, .int (ni i), .int (ni j)] (am_SH, I, J, Pf) P := by
  have h24 := hT.2.1
  have b0 : am_in 0 La = true := ni_in (a := 0) (by omega) (by omega)
  refine am_mth_of rfl rfl (v252_0 hp ha ?_)
  rw [z00, hT.1]
  refine ⟨b0, ?_⟩
  by_cases c1 : ¬ (i < T.1)
  · rw [if_neg (fun z => c1 z.1)] at kk
    rw [if_pos ((ni_le (by omega) (by omega)).mpr (by omega))]; exact kk
  replace c1 := Decidable.of_not_not c1
  rw [if_neg (fun z => absurd ((ni_le (by omega) (by omega)).mp z) (by omega))]
  refine ⟨b0, ?_⟩
  by_cases c2 : ¬ (j < T.1)
  · rw [if_neg (fun z => c2 z.2.1)] at kk
    rw [if_pos ((ni_le (by omega) (by omega)).mpr (by omega))]; exact kk
  replace c2 := Decidable.of_not_not c2
  rw [if_neg (fun z => absurd ((ni_le (by omega) (by omega)).mp z) (by omega)), show (1 : Int32) + ni i = ni (1 + i) from ni_add 1 i, show (1 : Int32) + ni j = ni (1 + j) from ni_add 1 j, show (ni (1 + i)).toNatClampNeg = 1 + i from ni_nat (by omega), show (ni (1 + j)).toNatClampNeg = 1 + j from ni_nat (by omega), hT.2.2 i c1, hT.2.2 j c2]
  have b1 : am_in (ni (1 + i)) La = true := ni_in (by omega) (by omega)
  have b2' : am_in (ni (1 + j)) La = true := ni_in (by omega) (by omega)
  refine ⟨b1, b2', ?_⟩
  by_cases c3 : T.2 i = T.2 j
  · rw [if_neg (fun z => z.2.2 c3)] at kk
    rw [if_pos c3]; exact kk
  rw [if_pos ⟨c1, c2, c3⟩] at kk
  rw [if_neg c3]
  refine ⟨b1, b2', b1, b2', kk _ ⟨by rw [am_u_nq (by omega), am_u_nq (by omega)]; exact hT.1, h24, fun b hb => ?_⟩ (fun o k e1 => by rw [am_u_nq (by omega), am_u_nq (by omega)])⟩
  show _ = (if b = j then T.2 i else if b = i then T.2 j else T.2 b)
  by_cases a1 : b = j
  · subst a1; rw [am_u_same, if_pos rfl]
  · rw [am_u_nq (by omega), if_neg a1]
    by_cases a2 : b = i
    · subst a2; rw [am_u_same, if_pos rfl]
    · rw [am_u_nq (by omega), if_neg a2]; exact hT.2.2 b hb
end TXR
