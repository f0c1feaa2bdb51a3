/-! The class measures heights -/
section MEA
variable {d : Nat} {P : am_O → Prop} {J : am_J} {Pf : am_R} {T : TX} {w : Nat → Int32} {r : Nat}
theorem cTb.of {x k : Nat} {I I' : am_I} (h : cTb x I w k T) (f : ∀ o y, x ≤ o → o ≤ x + 4 → I' o y = I o y) : cTb x I' w k T := by
  obtain ⟨⟨a1, a2, a3⟩, b, c⟩ := h
  refine ⟨⟨by rw [f _ _ (by omega) (by omega)]; exact a1, a2, fun i hi => by rw [f _ _ (by omega) (by omega)]; exact a3 i hi⟩, fun a ha => by rw [f _ _ (by omega) (by omega)]; exact b a ha, fun i hi => ⟨(c i hi).1.of (fun t _ => f _ _ (by omega) (by omega)), fun q hq => ?_⟩⟩
  rw [f _ _ (by omega) (by omega)]
  exact (c i hi).2 q hq
theorem sc_measure (hp : am_PF Pf) (hr : r = 16 ∨ r = 55) (hF : cFn Pf r) (hG : WG w) (hs : sndW w) {I : am_I} (hR : cRs r I J w) {k : Nat} (hTb : cTb 135 I w k T) (hTo : txOK T) (hM : I 145 2 = 0 ∨ cMd I T.1 (HHx w k T))
    (kk : ∀ I', cMd I' T.1 (HHx w k T) → cMf I I' → P (.inl none, (am_SH, I', J, Pf), 0, 0)) : am_mth (d + 5) 127 [.ref 145] (am_SH, I, J, Pf) P := by
  have h24 := hTb.1.2.1
  have hrr : r ≤ 55 := by omega
  have hS := HHx_sol hG hs k T
  have hbd := sol_bd hG h24 hS
  have stay : ∀ I1, cMf I I1 → cRs r I1 J w ∧ cTb 135 I1 w k T := fun I1 hf => ⟨hR.low hr hG (fun o y h => hf o y (by omega) (by omega) (by omega) (by omega)) (fun _ _ => rfl), hTb.of (fun o y h1 h2 => hf o y (by omega) (by omega) (by omega) (by omega))⟩
  -- heights set
  have LSI : ∀ (m h s i x1 : Nat) (I1 : am_I) (l5 l6 : Option Value), T.1 + 1 - i = m → i ≤ T.1 + 1 → s < 8 → h < 5000 → cMf I I1 → ¬ I1 145 2 = 0 → (∀ s' i', s' < 8 → i' ≤ T.1 → cFs I1 T.1 (HHx w k T) h s' i') → (∀ s' i', s' < 8 → i' ≤ T.1 → if s' < s ∨ (s' = s ∧ i' < i) then cKn I1 T.1 (HHx w k T) (h + 1) s' i' else cKn I1 T.1 (HHx w k T) h s' i') → (∀ s' i' j, s' < 8 → i' ≤ j → j ≤ T.1 → 0 < HHx w k T s' i' j → HHx w k T s' i' j ≤ (if s' < s ∨ (s' = s ∧ i' < i) then h + 1 else h) → I1 146 (25 * (25 * s' + i') + j) = ni (HHx w k T s' i' j)) → (∀ I' l4 l5 l6, cMf I I' → ¬ I' 145 2 = 0 → (∀ s' i', s' < 8 → i' ≤ T.1 → cFs I' T.1 (HHx w k T) h s' i') → (∀ s' i', s' < 8 → i' ≤ T.1 → if s' < s + 1 then cKn I' T.1 (HHx w k T) (h + 1) s' i' else cKn I' T.1 (HHx w k T) h s' i') → (∀ s' i' j, s' < 8 → i' ≤ j → j ≤ T.1 → 0 < HHx w k T s' i' j → HHx w k T s' i' j ≤ (if s' < s + 1 then h + 1 else h) → I' 146 (25 * (25 * s' + i') + j) = ni (HHx w k T s' i' j)) → am_go none (d + 4) 127 (146, [some (.ref 145), some (.int (ni x1)), some (.int (ni (h + 1))), some (.int (ni (s + 1))), l4, l5, l6], [], (am_SH, I', J, Pf), 0, 0) P) → am_go none (d + 4) 127 (155, [some (.ref 145), some (.int (ni x1)), some (.int (ni (h + 1))), some (.int (ni s)), some (.int (ni i)), l5, l6], [], (am_SH, I1, J, Pf), 0, 0) P := by
    intro m
    induction m with
    | zero =>
      intro h s i x1 I1 l5 l6 hm hi h8 hh hf h0 hFs hK hH kk
      have : i = T.1 + 1 := by omega
      subst this
      obtain ⟨s1, s2⟩ := stay I1 hf
      refine v127_155 hp ?_
      rw [s2.1.1, if_pos ((ni_lt (by omega) (by omega)).mpr (by omega)), ni_p1]
      refine kk I1 _ _ _ hf h0 hFs (fun s' i' z1 z2 => ?_) (fun s' i' j z1 z2 z3 z4 z5 => hH s' i' j z1 z2 z3 z4 ?_)
      · have := hK s' i' z1 z2
        by_cases c : s' < s + 1
        · rw [if_pos c]; rw [if_pos (by omega)] at this; exact this
        · rw [if_neg c]; rw [if_neg (by omega)] at this; exact this
      · by_cases c : s' < s + 1
        · rw [if_pos c] at z5; rw [if_pos (by omega)]; exact z5
        · rw [if_neg c] at z5; rw [if_neg (by omega)]; exact z5
    | succ m ih =>
      intro h s i x1 I1 l5 l6 hm hi h8 hh hf h0 hFs hK hH kk
      obtain ⟨s1, s2⟩ := stay I1 hf
      have hKs := hK s i h8 (by omega)
      rw [if_neg (by omega)] at hKs
      refine v127_155 hp ?_
      rw [s2.1.1, if_neg (fun z => absurd ((ni_lt (by omega) (by omega)).mp z) (by omega)), show (25 : Int32) = ni 25 from rfl, ni_mul, ni_add, Nat.mul_comm s 25]
      refine sc_sethts (d := d + 3) hp h24 s2.1.1 h8 (by omega) (by omega) (hFs s i h8 (by omega)) hKs (fun I2 a1 a2 a3 => am_back (v127_179 hp ?_))
      rw [ni_p1]
      refine ih h s (i + 1) x1 I2 _ _ (by omega) (by omega) h8 hh (hf.trans (fun o y e1 e2 e3 e4 => a3 o y (by omega) (by omega))) (by rw [a3 _ _ (by omega) (by omega)]; exact h0) (fun s' i' z1 z2 => ?_) (fun s' i' z1 z2 => ?_) (fun s' i' j z1 z2 z3 z4 z5 => ?_) kk
      · have := hFs s' i' z1 z2
        unfold cFs at *
        rw [a3 _ _ (by omega) (by omega)]; exact this
      · by_cases e : s' = s ∧ i' = i
        · obtain ⟨rfl, rfl⟩ := e
          rw [if_pos (by omega)]
          exact a1
        · have := hK s' i' z1 z2
          unfold cKn at *
          rw [a3 _ _ (by omega) (by omega)]
          by_cases c : s' < s ∨ (s' = s ∧ i' < i)
          · rw [if_pos c] at this; rw [if_pos (by omega)]; exact this
          · rw [if_neg c] at this; rw [if_neg (by omega)]; exact this
      · by_cases e : s' = s ∧ i' = i
        · obtain ⟨rfl, rfl⟩ := e
          by_cases ce : HHx w k T s' i' j = h + 1
          · rw [ce]; exact a2 j z2 z3 ce
          · rw [if_pos (by omega)] at z5
            rw [a3 _ _ (fun z => by obtain ⟨-, j', -, -, y3, y4⟩ := z; have : j' = j := by omega
                                    subst this; exact ce y3) (by omega)]
            exact hH s' i' j z1 z2 z3 z4 (by rw [if_neg (by omega)]; omega)
        · rw [a3 _ _ (fun z => by obtain ⟨-, j', y1, y2, y3, y4⟩ := z; omega) (by omega)]
          refine hH s' i' j z1 z2 z3 z4 ?_
          by_cases c : s' < s ∨ (s' = s ∧ i' < i)
          · rw [if_pos c]; rw [if_pos (by omega)] at z5; exact z5
          · rw [if_neg c]; rw [if_neg (by omega)] at z5; exact z5
  have LSS : ∀ (m h s x1 : Nat) (I1 : am_I) (l4 l5 l6 : Option Value), 8 - s = m → s ≤ 8 → h < 5000 → cMf I I1 → ¬ I1 145 2 = 0 → (∀ s' i', s' < 8 → i' ≤ T.1 → cFs I1 T.1 (HHx w k T) h s' i') → (∀ s' i', s' < 8 → i' ≤ T.1 → if s' < s then cKn I1 T.1 (HHx w k T) (h + 1) s' i' else cKn I1 T.1 (HHx w k T) h s' i') → (∀ s' i' j, s' < 8 → i' ≤ j → j ≤ T.1 → 0 < HHx w k T s' i' j → HHx w k T s' i' j ≤ (if s' < s then h + 1 else h) → I1 146 (25 * (25 * s' + i') + j) = ni (HHx w k T s' i' j)) → (∀ I' l3 l4 l5 l6, cMf I I' → ¬ I' 145 2 = 0 → (∀ s' i', s' < 8 → i' ≤ T.1 → cKn I' T.1 (HHx w k T) (h + 1) s' i') → cHt I' T.1 (HHx w k T) (h + 1) → am_go none (d + 4) 127 (25, [some (.ref 145), some (.int (ni x1)), some (.int (ni (h + 1 + 1))), l3, l4, l5, l6], [], (am_SH, I', J, Pf), 0, 0) P) → am_go none (d + 4) 127 (146, [some (.ref 145), some (.int (ni x1)), some (.int (ni (h + 1))), some (.int (ni s)), l4, l5, l6], [], (am_SH, I1, J, Pf), 0, 0) P := by
    intro m
    induction m with
    | zero =>
      intro h s x1 I1 l4 l5 l6 hm hs8 hh hf h0 hFs hK hH kk
      have : s = 8 := by omega
      subst this
      refine v127_146 hp ?_
      rw [if_pos ((gle 8 (by omega) (by omega)).mpr (by omega)), ni_p1]
      refine kk I1 _ _ _ _ hf h0 (fun s' i' z1 z2 => ?_) (fun s' i' j z1 z2 z3 z4 => hH s' i' j z1 z2 z3 z4.1 ?_)
      · have := hK s' i' z1 z2
        rw [if_pos z1] at this; exact this
      · rw [if_pos z1]; exact z4.2
    | succ m ih =>
      intro h s x1 I1 l4 l5 l6 hm hs8 hh hf h0 hFs hK hH kk
      refine v127_146 hp ?_
      rw [if_neg (fun z => absurd ((gle 8 (by omega) (by omega)).mp z) (by omega)), show (0 : Int32) = ni 0 from rfl]
      refine LSI _ h s 0 x1 I1 _ _ rfl (by omega) (by omega) hh hf h0 hFs (fun s' i' z1 z2 => ?_) (fun s' i' j z1 z2 z3 z4 z5 => ?_) (fun I' l4 l5 l6 a1 a2 a3 a4 a5 => ih h (s + 1) x1 I' l4 l5 l6 (by omega) (by omega) hh a1 a2 a3 a4 a5 kk)
      · have := hK s' i' z1 z2
        by_cases c : s' < s
        · rw [if_pos c] at this; rw [if_pos (by omega)]; exact this
        · rw [if_neg c] at this; rw [if_neg (by omega)]; exact this
      · refine hH s' i' j z1 z2 z3 z4 ?_
        by_cases c : s' < s
        · rw [if_pos c]; rw [if_pos (by omega)] at z5; exact z5
        · rw [if_neg c]; rw [if_neg (by omega)] at z5; exact z5
  -- what is fresh
  have LFI : ∀ (m h s i x1 : Nat) (I1 : am_I) (l5 l6 : Option Value), T.1 + 1 - i = m → i ≤ T.1 + 1 → s < 8 → h < 5000 → cMf I I1 → ¬ I1 145 2 = 0 → x1 < 2 → (∀ s' i', s' < 8 → i' ≤ T.1 → cKn I1 T.1 (HHx w k T) h s' i') → cHt I1 T.1 (HHx w k T) h → (∀ s' i', s' < 8 → i' ≤ T.1 → (s' < s ∨ (s' = s ∧ i' < i)) → cFs I1 T.1 (HHx w k T) h s' i') → (x1 = 0 → ∀ s' i' j, s' < 8 → i' ≤ j → j ≤ T.1 → (s' < s ∨ (s' = s ∧ i' < i)) → HHx w k T s' i' j ≠ h + 1) → (∀ I' x' l4 l5 l6, cMf I I' → ¬ I' 145 2 = 0 → x' < 2 → (∀ s' i', s' < 8 → i' ≤ T.1 → cKn I' T.1 (HHx w k T) h s' i') → cHt I' T.1 (HHx w k T) h → (∀ s' i', s' < 8 → i' ≤ T.1 → s' < s + 1 → cFs I' T.1 (HHx w k T) h s' i') → (x' = 0 → ∀ s' i' j, s' < 8 → i' ≤ j → j ≤ T.1 → s' < s + 1 → HHx w k T s' i' j ≠ h + 1) → am_go none (d + 4) 127 (42, [some (.ref 145), some (.int (ni x')), some (.int (ni (h + 1))), some (.int (ni (s + 1))), l4, l5, l6], [], (am_SH, I', J, Pf), 0, 0) P) → am_go none (d + 4) 127 (51, [some (.ref 145), some (.int (ni x1)), some (.int (ni (h + 1))), some (.int (ni s)), some (.int (ni i)), l5, l6], [], (am_SH, I1, J, Pf), 0, 0) P := by
    intro m
    induction m with
    | zero =>
      intro h s i x1 I1 l5 l6 hm hi h8 hh hf h0 hx hK hH hFs hz kk
      have : i = T.1 + 1 := by omega
      subst this
      obtain ⟨s1, s2⟩ := stay I1 hf
      refine v127_51 hp ?_
      rw [s2.1.1, if_pos ((ni_lt (by omega) (by omega)).mpr (by omega)), ni_p1]
      exact kk I1 x1 _ _ _ hf h0 hx hK hH (fun s' i' z1 z2 z3 => hFs s' i' z1 z2 (by omega)) (fun e s' i' j z1 z2 z3 z4 => hz e s' i' j z1 z2 z3 (by omega))
    | succ m ih =>
      intro h s i x1 I1 l5 l6 hm hi h8 hh hf h0 hx hK hH hFs hz kk
      obtain ⟨s1, s2⟩ := stay I1 hf
      have hrow := (s2.2.2 i (by omega)).1 s h8
      have hkn := hK s i h8 (by omega)
      have ec : (ni (s * 25 + i)).toNatClampNeg = 25 * s + i := by rw [ni_nat (by omega)]; omega
      have bc : am_in (ni (s * 25 + i)) 200 = true := ni_in (by omega) (by omega)
      have hleft : bts (I1 138 (25 * s + i) &&& (I1 147 (25 * s + i) ^^^ (-1))) (fun j => (i ≤ j ∧ j ≤ T.1 ∧ 0 < HHx w k T s i j) ∧ ¬ (i ≤ j ∧ j ≤ T.1 ∧ lo (HHx w k T) h s i j)) := bts_and hrow (bts_not hkn)
      -- what is owed behind a cell
      have nx : ∀ (v : Int32) (x' : Nat) (l5 l6 : Option Value), bts v (fun j => i ≤ j ∧ j ≤ T.1 ∧ HHx w k T s i j = h + 1) → x' < 2 → (x' = 0 → x1 = 0 ∧ v = 0) → am_go none (d + 4) 127 (51, [some (.ref 145), some (.int (ni x')), some (.int (ni (h + 1))), some (.int (ni s)), some (.int (ni (i + 1))), l5, l6], [], (am_SH, am_u I1 148 (25 * s + i) v, J, Pf), 0, 0) P := by
        intro v x' l5 l6 hv hx' hx0
        refine ih h s (i + 1) x' _ _ _ (by omega) (by omega) h8 hh (hf.trans (fun o y e1 e2 e3 e4 => am_u_nq (by omega))) (by rw [am_u_nq (by omega)]; exact h0) hx' (fun s' i' z1 z2 => by unfold cKn; rw [am_u_nq (by omega)]; exact hK s' i' z1 z2) (fun s' i' j z1 z2 z3 z4 => by rw [am_u_nq (by omega)]; exact hH s' i' j z1 z2 z3 z4) (fun s' i' z1 z2 z3 => ?_) (fun e s' i' j z1 z2 z3 z4 => ?_) kk
        · unfold cFs
          by_cases e : s' = s ∧ i' = i
          · obtain ⟨rfl, rfl⟩ := e
            rw [am_u_same]; exact hv
          · rw [am_u_nq (by omega)]; exact hFs s' i' z1 z2 (by omega)
        · obtain ⟨y1, y2⟩ := hx0 e
          by_cases ee : s' = s ∧ i' = i
          · obtain ⟨rfl, rfl⟩ := ee
            exact fun z => (bts_z hv).mp y2 j (by omega) ⟨z2, z3, z⟩
          · exact hz y1 s' i' j z1 z2 z3 (by omega)
      refine v127_51 hp ?_
      rw [s2.1.1, if_neg (fun z => absurd ((ni_lt (by omega) (by omega)).mp z) (by omega)), show (25 : Int32) = ni 25 from rfl, ni_mul, ni_add, ec, ni_p1]
      refine ⟨bc, bc, ?_⟩
      by_cases c0 : I1 138 (25 * s + i) &&& (I1 147 (25 * s + i) ^^^ (-1)) = 0
      · rw [if_pos c0]
        have hno := (bts_z hleft).mp c0
        have hv0 : bts 0 (fun j => i ≤ j ∧ j ≤ T.1 ∧ HHx w k T s i j = h + 1) := bts_0 (fun j hj z => hno j hj ⟨⟨z.1, z.2.1, by omega⟩, fun y => by have := y.2.2; unfold lo at this; omega⟩)
        exact ⟨bc, bc, nx 0 x1 _ _ hv0 hx (fun e => ⟨e, rfl⟩)⟩
      · rw [if_neg c0]
        refine sc_below (d := d + 1) hp hr hF hG s1 s2 hTo h8 (by omega) (fun t b t8 hb => hK t b t8 hb) (fun u hu => am_back (v127_118 hp ?_))
        rw [ec, am_u_same, ni_p1]
        have hfr : bts ((I1 138 (25 * s + i) &&& (I1 147 (25 * s + i) ^^^ (-1))) &&& u) (fun j => i ≤ j ∧ j ≤ T.1 ∧ HHx w k T s i j = h + 1) := (bts_and hleft hu).of (fun j _ => by
          constructor
          · rintro ⟨⟨⟨z1, z2, z3⟩, z4⟩, z5⟩
            have hmay := ((sol_pos hS h8 (Nat.zero_le _) z1 z2).mp z3).1
            have := (hS s i j h8 (Nat.zero_le _) z1 z2 h).mpr ⟨hmay, z5⟩
            have z6 : ¬ lo (HHx w k T) h s i j := fun y => z4 ⟨z1, z2, y⟩
            unfold lo at *
            exact ⟨z1, z2, by omega⟩
          · rintro ⟨z1, z2, z3⟩
            refine ⟨⟨⟨z1, z2, by omega⟩, fun y => by have := y.2.2; unfold lo at this; omega⟩, ((hS s i j h8 (Nat.zero_le _) z1 z2 h).mp (by unfold lo; omega)).2⟩)
        refine ⟨bc, bc, ?_⟩
        generalize hvv : (I1 138 (25 * s + i) &&& (I1 147 (25 * s + i) ^^^ (-1))) &&& u = v at *
        by_cases cv : v = 0
        · rw [if_pos cv]
          exact nx v x1 _ _ hfr hx (fun e => ⟨e, cv⟩)
        · rw [if_neg cv, show (1 : Int32) = ni 1 from rfl]
          exact nx v 1 _ _ hfr (by omega) (fun e => absurd e (by omega))
  have LFS : ∀ (m h s x1 : Nat) (I1 : am_I) (l4 l5 l6 : Option Value), 8 - s = m → s ≤ 8 → h < 5000 → cMf I I1 → ¬ I1 145 2 = 0 → x1 < 2 → (∀ s' i', s' < 8 → i' ≤ T.1 → cKn I1 T.1 (HHx w k T) h s' i') → cHt I1 T.1 (HHx w k T) h → (∀ s' i', s' < 8 → i' ≤ T.1 → s' < s → cFs I1 T.1 (HHx w k T) h s' i') → (x1 = 0 → ∀ s' i' j, s' < 8 → i' ≤ j → j ≤ T.1 → s' < s → HHx w k T s' i' j ≠ h + 1) → (∀ I' x' l3 l4 l5 l6, cMf I I' → ¬ I' 145 2 = 0 → x' < 2 → (∀ s' i', s' < 8 → i' ≤ T.1 → cKn I' T.1 (HHx w k T) (h + 1) s' i') → cHt I' T.1 (HHx w k T) (h + 1) → (x' = 0 → ∀ s' i' j, s' < 8 → i' ≤ j → j ≤ T.1 → HHx w k T s' i' j ≠ h + 1) → am_go none (d + 4) 127 (25, [some (.ref 145), some (.int (ni x')), some (.int (ni (h + 1 + 1))), l3, l4, l5, l6], [], (am_SH, I', J, Pf), 0, 0) P) → am_go none (d + 4) 127 (42, [some (.ref 145), some (.int (ni x1)), some (.int (ni (h + 1))), some (.int (ni s)), l4, l5, l6], [], (am_SH, I1, J, Pf), 0, 0) P := by
    intro m
    induction m with
    | zero =>
      intro h s x1 I1 l4 l5 l6 hm hs8 hh hf h0 hx hK hH hFs hz kk
      have : s = 8 := by omega
      subst this
      refine v127_42 hp ?_
      rw [if_pos ((gle 8 (by omega) (by omega)).mpr (by omega)), show (0 : Int32) = ni 0 from rfl]
      refine LSS _ h 0 x1 I1 _ _ _ rfl (by omega) hh hf h0 (fun s' i' z1 z2 => hFs s' i' z1 z2 z1) (fun s' i' z1 z2 => by rw [if_neg (by omega)]; exact hK s' i' z1 z2) (fun s' i' j z1 z2 z3 z4 z5 => hH s' i' j z1 z2 z3 ⟨z4, by rw [if_neg (by omega)] at z5; exact z5⟩) (fun I' l3 l4 l5 l6 a1 a2 a3 a4 => kk I' x1 l3 l4 l5 l6 a1 a2 hx a3 a4 (fun e s' i' j z1 z2 z3 => hz e s' i' j z1 z2 z3 z1))
    | succ m ih =>
      intro h s x1 I1 l4 l5 l6 hm hs8 hh hf h0 hx hK hH hFs hz kk
      refine v127_42 hp ?_
      rw [if_neg (fun z => absurd ((gle 8 (by omega) (by omega)).mp z) (by omega)), show (0 : Int32) = ni 0 from rfl]
      exact LFI _ h s 0 x1 I1 _ _ rfl (by omega) (by omega) hh hf h0 hx hK hH (fun s' i' z1 z2 z3 => hFs s' i' z1 z2 (by omega)) (fun e s' i' j z1 z2 z3 z4 => hz e s' i' j z1 z2 z3 (by omega)) (fun I' x' l4 l5 l6 a1 a2 a3 a4 a5 a6 a7 => ih h (s + 1) x' I' l4 l5 l6 (by omega) (by omega) hh a1 a2 a3 a4 a5 a6 a7 kk)
  -- rounds
  have LR : ∀ (m h x1 : Nat) (I1 : am_I) (l3 l4 l5 l6 : Option Value), 5000 - h = m → h ≤ 5000 → x1 < 2 → cMf I I1 → ¬ I1 145 2 = 0 → (∀ s' i', s' < 8 → i' ≤ T.1 → cKn I1 T.1 (HHx w k T) h s' i') → cHt I1 T.1 (HHx w k T) h → (x1 = 0 → ∀ s' i' j, s' < 8 → i' ≤ j → j ≤ T.1 → HHx w k T s' i' j ≤ h) → am_go none (d + 4) 127 (25, [some (.ref 145), some (.int (ni x1)), some (.int (ni (h + 1))), l3, l4, l5, l6], [], (am_SH, I1, J, Pf), 0, 0) P := by
    intro m
    induction m with
    | zero =>
      intro h x1 I1 l3 l4 l5 l6 hm hh hx hf h0 hK hH hz
      have : h = 5000 := by omega
      subst this
      refine v127_25 hp ?_
      rw [if_pos ((glt 5000 (by omega) (by omega)).mpr (by omega))]
      exact kk I1 ⟨h0, fun s i j h8 hij hj z => hH s i j h8 hij hj ⟨z, hbd s i j h8 hij hj⟩⟩ hf
    | succ m ih =>
      intro h x1 I1 l3 l4 l5 l6 hm hh hx hf h0 hK hH hz
      refine v127_25 hp ?_
      rw [if_neg (fun z => absurd ((glt 5000 (by omega) (by omega)).mp z) (by omega))]
      by_cases c : x1 = 0
      · rw [if_pos ((leq 0 (by omega) (by omega)).mpr c)]
        exact kk I1 ⟨h0, fun s i j h8 hij hj z => hH s i j h8 hij hj ⟨z, hz c s i j h8 hij hj⟩⟩ hf
      · rw [if_neg (fun z => c ((leq 0 (by omega) (by omega)).mp z)), show (0 : Int32) = ni 0 from rfl]
        exact LFS _ h 0 0 I1 _ _ _ rfl (by omega) (by omega) hf h0 (by omega) hK hH (fun s' i' _ _ z => absurd z (by omega)) (fun _ s' i' j _ _ _ z => absurd z (by omega)) (fun I' x' l3 l4 l5 l6 a1 a2 a3 a4 a5 a6 => ih (h + 1) x' I' l3 l4 l5 l6 (by omega) (by omega) a3 a1 a2 a4 a5 (fun e s i j h8 hij hj => by have := sol_stop hG hS (a6 e) s i j h8 hij hj; omega))
  refine am_mth_of rfl rfl (v127_0 hp ?_)
  by_cases c : I 145 2 = 0
  · rw [if_pos c]
    refine sp_fill (d := d + 3) (L := 200) hp rfl (by omega) (am_back (v127_21 hp ?_))
    rw [show (1 : Int32) = ni 1 from rfl]
    refine LR _ 0 1 _ _ _ _ _ rfl (by omega) (by omega) (fun o y e1 e2 e3 e4 => ?_) ?_ (fun s i h8 hi => ?_) (fun s i j h8 _ _ z => absurd z.1 (by have := z.2; omega)) (fun z => absurd z (by omega))
    · unfold am_fill
      rw [if_neg (fun z => e2 z.1), am_u_nq e4]
    · unfold am_fill
      rw [if_neg (fun z => absurd z.1 (by omega)), am_u_same]
      decide
    · unfold cKn am_fill
      rw [if_pos ⟨rfl, Nat.zero_le _, by omega⟩]
      exact bts_0 (fun j _ z => by have := z.2.2; unfold lo at this; omega)
  · rw [if_neg c]
    exact kk I (hM.resolve_left c) cMf.rfl'
theorem sc_height (hp : am_PF Pf) (hr : r = 16 ∨ r = 55) (hF : cFn Pf r) (hG : WG w) (hs : sndW w) {I : am_I} (hR : cRs r I J w) {k : Nat} (hTb : cTb 135 I w k T) (hTo : txOK T) (hM : I 145 2 = 0 ∨ cMd I T.1 (HHx w k T)) {s i j : Nat} (h8 : s < 8) (hij : i ≤ j) (hj : j ≤ T.1)
    (kk : ∀ I', (I' 145 2 = 0 ∨ cMd I' T.1 (HHx w k T)) → cMf I I' → P (.inl (some (.int (if HHx w k T s i j = 0 then -1 else ni (HHx w k T s i j)))), (am_SH, I', J, Pf), 0, 0)) : am_mth (d + 6) 126 [.ref 145, .int (ni s), .int (ni i), .int (ni j)] (am_SH, I, J, Pf) P := by
  have h24 := hTb.1.2.1
  have hrow := (hTb.2.2 i (by omega)).1 s h8
  refine am_mth_of rfl rfl (v126_0 hp ?_)
  rw [show (25 : Int32) = ni 25 from rfl, ni_mul, ni_add, show (ni (s * 25 + i)).toNatClampNeg = 25 * s + i by rw [ni_nat (by omega)]; omega]
  refine ⟨ni_in (by omega) (by omega), ?_⟩
  by_cases c : HHx w k T s i j = 0
  · rw [if_pos ((bts_us hrow (by omega)).mpr (fun z => by have := z.2.2; unfold pos at this; omega))]
    have := kk I hM cMf.rfl'
    rw [if_pos c] at this
    exact this
  · rw [if_neg (fun z => (bts_us hrow (by omega)).mp z ⟨hij, hj, Nat.pos_of_ne_zero c⟩)]
    refine sc_measure (d := d) hp hr hF hG hs hR hTb hTo hM (fun I1 a1 a2 => am_back (v126_19 hp ?_))
    rw [show (25 : Int32) = ni 25 from rfl, ni_mul, ni_add, ni_mul, ni_add, show (ni ((s * 25 + i) * 25 + j)).toNatClampNeg = 25 * (25 * s + i) + j by rw [ni_nat (by omega)]; omega, a1.2 s i j h8 hij hj (Nat.pos_of_ne_zero c)]
    have := kk I1 (Or.inr a1) a2
    rw [if_neg c] at this
    exact ⟨ni_in (by omega) (by omega), this⟩
end MEA
