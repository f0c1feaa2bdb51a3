/-! Counting pieces -/
noncomputable def pcX (w : Nat → Int32) (T : TX) (s i j : Nat) : Bool := decide (i ≤ j ∧ j ≤ T.1 ∧ 0 < HHx w 3 T s i j)
noncomputable def pcC (w : Nat → Int32) (T : TX) (s : Nat) : Nat → Nat
  | 0 => 0
  | m + 1 => pcC w T s m + cntN (pcX w T s m) 32
theorem cntN_off {X : Nat → Bool} {a : Nat} : ∀ n, (∀ i, a ≤ i → i < a + n → X i = false) → cntN X (a + n) = cntN X a
  | 0, _ => rfl
  | n + 1, h => by
    show cntN X (a + n) + (if X (a + n) then 1 else 0) = _
    rw [h (a + n) (by omega) (by omega), cntN_off n (fun i h1 h2 => h i h1 (by omega))]
    rfl
theorem pcC_le {w : Nat → Int32} {T : TX} {s : Nat} : ∀ m, pcC w T s m ≤ 32 * m
  | 0 => Nat.le_refl _
  | m + 1 => by
    have := pcC_le (w := w) (T := T) (s := s) m
    have := cntN_le (pcX w T s m) 32
    show pcC w T s m + _ ≤ _
    omega
/-- how many pieces of a sort -/
noncomputable def pcN (w : Nat → Int32) (T : TX) (s : Nat) : Nat := pcC w T s (T.1 + 1)
theorem pcN_le {w : Nat → Int32} {T : TX} {s : Nat} (h : T.1 ≤ 24) : pcN w T s ≤ 800 := by
  have := pcC_le (w := w) (T := T) (s := s) (T.1 + 1)
  unfold pcN
  omega
/-- the first sort with most pieces, of the first c sorts -/
noncomputable def cmN (w : Nat → Int32) (T : TX) : Nat → Nat
  | 0 => 0
  | c + 1 => if pcN w T (cmN w T c) < pcN w T c then c else cmN w T c
theorem cmN_lt {w : Nat → Int32} {T : TX} : ∀ c, 1 ≤ c → cmN w T c < c
  | 0, h => absurd h (by omega)
  | 1, _ => by
    unfold cmN
    split
    · omega
    · show cmN w T 0 < 1; show 0 < 1; omega
  | c + 2, _ => by
    have := cmN_lt (w := w) (T := T) (c + 1) (by omega)
    unfold cmN
    split <;> omega
section CNT
variable {P : am_O → Prop} {J : am_J} {Pf : am_R} {T : TX} {w : Nat → Int32} {r : Nat}
theorem sr_piecesof (hp : am_PF Pf) {I : am_I} (hK : rKn I w 3 T) {s d : Nat} (h8 : s < 8) (kk : P (.inl (some (.int (ni (pcN w T s)))), (am_SH, I, J, Pf), 0, 0)) : am_mth (d + 3) 297 [.ref 163, .int (ni s)] (am_SH, I, J, Pf) P := by
  have h24 := hK.2.1.2.1
  refine am_mth_of rfl rfl (v297_0 hp ?_)
  have LI : ∀ (m i : Nat) (l4 : Option Value), T.1 + 1 - i = m → i ≤ T.1 + 1 → am_go none (d + 2) 297 (4, [some (.ref 163), some (.int (ni s)), some (.int (ni (pcC w T s i))), some (.int (ni i)), l4], [], (am_SH, I, J, Pf), 0, 0) P := by
    intro m
    induction m with
    | zero =>
      intro i l4 hm hi
      have : i = T.1 + 1 := by omega
      subst this
      refine v297_4 hp ?_
      rw [hK.2.2.1, if_pos ((ni_lt (by omega) (by omega)).mpr (by omega))]
      exact kk
    | succ m ih =>
      intro i l4 hm hi
      refine v297_4 hp ?_
      rw [hK.2.2.1, if_neg (fun z => absurd ((ni_lt (by omega) (by omega)).mp z) (by omega))]
      have e0 : cntN (pcX w T s i) i = 0 := by
        have := cntN_off (X := pcX w T s i) (a := 0) i (fun j _ hj => decide_eq_false (by omega))
        rw [Nat.zero_add] at this
        exact this
      have LJ : ∀ (q j : Nat), T.1 + 1 - j = q → i ≤ j → j ≤ T.1 + 1 → am_go none (d + 2) 297 (17, [some (.ref 163), some (.int (ni s)), some (.int (ni (pcC w T s i + cntN (pcX w T s i) j))), some (.int (ni i)), some (.int (ni j))], [], (am_SH, I, J, Pf), 0, 0) P := by
        intro q
        induction q with
        | zero =>
          intro j hq hij hj
          have : j = T.1 + 1 := by omega
          subst this
          have e1 : cntN (pcX w T s i) (T.1 + 1) = cntN (pcX w T s i) 32 := by
            have := cntN_off (X := pcX w T s i) (a := T.1 + 1) (31 - T.1) (fun j h1 h2 => decide_eq_false (by omega))
            rw [show T.1 + 1 + (31 - T.1) = 32 by omega] at this
            exact this.symm
          refine v297_17 hp ?_
          rw [hK.2.2.1, if_pos ((ni_lt (by omega) (by omega)).mpr (by omega)), ni_p1, e1]
          exact ih (i + 1) _ (by omega) (by omega)
        | succ q ihq =>
          intro j hq hij hj
          have hh := hK.h h24 h8 hij (show j ≤ T.1 by omega)
          have hx := ix0 h8 (show i < 25 by omega) (show j < 25 by omega)
          refine v297_17 hp ?_
          rw [hK.2.2.1, if_neg (fun z => absurd ((ni_lt (by omega) (by omega)).mp z) (by omega)), hx.1, hx.2.2, hh.1, ni_p1 j]
          refine ⟨hx.2.1, ?_⟩
          have := ihq (j + 1) (by omega) (by omega) (by omega)
          have es : cntN (pcX w T s i) (j + 1) = cntN (pcX w T s i) j + (if pcX w T s i j then 1 else 0) := rfl
          rw [es] at this
          by_cases c : HHx w 3 T s i j = 0
          · rw [if_pos ((lle 0 (by omega) (by omega)).mpr (by omega)), Int32.add_zero]
            rw [show pcX w T s i j = false from decide_eq_false (by omega)] at this
            exact this
          · rw [if_neg (fun z => absurd ((lle 0 (by omega) (by omega)).mp z) (by omega)), ni_p1]
            rw [show pcX w T s i j = true from decide_eq_true (by omega)] at this
            exact this
      have := LJ _ i rfl (Nat.le_refl _) hi
      rw [e0, Nat.add_zero] at this
      exact this
  rw [show (0 : Int32) = ni 0 from rfl]
  exact LI _ 0 _ rfl (Nat.zero_le _)
theorem sc_piecesof (hp : am_PF Pf) {I : am_I} (hTb : cTb 135 I w 3 T) {s d : Nat} (h8 : s < 8) (kk : P (.inl (some (.int (ni (pcN w T s)))), (am_SH, I, J, Pf), 0, 0)) : am_mth (d + 2) 120 [.ref 135, .int (ni s)] (am_SH, I, J, Pf) P := by
  have h24 := hTb.1.2.1
  refine am_mth_of rfl rfl (v120_0 hp rfl ?_)
  have LI : ∀ (m i : Nat), T.1 + 1 - i = m → i ≤ T.1 + 1 → am_go none (d + 1) 120 (4, [some (.ref 135), some (.int (ni s)), some (.int (ni (pcC w T s i))), some (.int (ni i))], [], (am_SH, I, J, Pf), 0, 0) P := by
    intro m
    induction m with
    | zero =>
      intro i hm hi
      have : i = T.1 + 1 := by omega
      subst this
      refine v120_4 hp rfl ?_
      rw [hTb.1.1, if_pos ((ni_lt (by omega) (by omega)).mpr (by omega))]
      exact kk
    | succ m ih =>
      intro i hm hi
      obtain ⟨b1, b2, b3, b4⟩ := row138 hTb h8 (show i ≤ T.1 by omega)
      refine v120_4 hp rfl ?_
      rw [hTb.1.1, if_neg (fun z => absurd ((ni_lt (by omega) (by omega)).mp z) (by omega)), b1, b3]
      refine ⟨b2, ?_⟩
      refine jd_count hp (am_back (v120_27 hp rfl ?_))
      have e1 : cntN (fun k => bI (I (135 + 3) (25 * s + i)) k) 32 = cntN (pcX w T s i) 32 := cntN_congr 32 (fun k hk => by
        have := b4 k hk
        unfold pcX
        by_cases c : i ≤ k ∧ k ≤ T.1 ∧ 0 < HHx w 3 T s i k
        · rw [decide_eq_true c]; exact this.mpr c
        · rw [decide_eq_false c]
          cases e : bI (I 138 (25 * s + i)) k
          · rfl
          · exact absurd (this.mp e) c)
      rw [e1, ni_add, ni_p1]
      exact ih (i + 1) (by omega) (by omega)
  rw [show (0 : Int32) = ni 0 from rfl]
  exact LI _ 0 rfl (Nat.zero_le _)
/-- what is answered of a sort -/
noncomputable def qSt (n : Nat) (f : Nat → Int32) (x : Int32) : Sum Nat Int32 := cif (inW x n) (.inr (f x.toNatClampNeg)) (.inl 1)
theorem qSt_t {n s : Nat} {f : Nat → Int32} (h : s ≤ n) (hn : n < 2147483648) : qSt n f (ni s) = .inr (f s) := by
  unfold qSt
  rw [cif_t ⟨s, rfl, h⟩, ni_nat (by omega)]
theorem qSt_f {n : Nat} {f : Nat → Int32} {x : Int32} (h : ¬ inW x n) : qSt n f x = .inl 1 := cif_f h
theorem sr_pieces (hp : am_PF Pf) (hG : WG w) (hs : sndW w) {I : am_I} (hQ : rQ I w T) {D : Nat} (hD : 100 ≤ D) {x1 : Int32} (kk : rA P J Pf w T I cd1 (qSt 7 (fun s => ni (pcN w T s)) x1)) : am_mth D 296 [.ref 163, .int x1] (am_SH, I, J, Pf) P := by
  obtain ⟨D', rfl⟩ : ∃ D', D = D' + 6 := ⟨D - 6, by omega⟩
  refine am_mth_of rfl rfl (v296_0 hp ?_)
  have e9 : (am_u (am_u (am_u I 163 0 0) 163 0 1) 164 1 (I 164 1 + 1)) = rTh I 1 1 := rfl
  by_cases c1 : x1 < 0
  · rw [if_pos c1]
    rw [qSt_f (inW_lo (by omega) c1)] at kk
    exact kk
  · rw [if_neg c1]
    by_cases c2 : (7 : Int32) < x1
    · rw [if_pos c2]
      rw [qSt_f (inW_hi (n := 7) (by omega) c2)] at kk
      exact kk
    · rw [if_neg c2]
      obtain ⟨s, hs1, hs7⟩ := inW_of (n := 7) (by omega) c1 c2
      subst hs1
      rw [qSt_t hs7 (by omega)] at kk
      refine sr_gk hp hG hs hQ (by omega) (fun I' a1 a2 a3 a4 => am_back (v296_27 hp ?_))
      exact sr_piecesof (d := D' + 2) hp (a1.kn a2) (by omega) (am_back (v296_32 hp (kk I' a1 a3 a4)))
theorem sc_pieces (hp : am_PF Pf) (hr : r = 16 ∨ r = 55) (hF : cFn Pf r) (hG : WG w) (hs : sndW w) {I : am_I} (hQ : cQ r I J w T) {D : Nat} (hD : 130 ≤ D) {x1 : Int32} (kk : cA P Pf r w T I J (qSt 7 (fun s => ni (pcN w T s)) x1)) : am_mth D 163 [.ref 0, .int x1] (am_SH, I, J, Pf) P := by
  obtain ⟨D', rfl⟩ : ∃ D', D = D' + 10 := ⟨D - 10, by omega⟩
  refine am_mth_of rfl rfl (v163_0 hp ?_)
  refine sc_nsort (d := D' + 2) hp (fun s hs1 h8 => am_back (v163_5 hp ?_)) (fun hb => am_thru rfl ?_)
  · subst hs1
    rw [qSt_t (by omega) (by omega)] at kk
    refine sc_gk hp hr hF hG hs hQ (by omega) (fun I' J' a1 a2 a3 a4 => am_back (v163_9 hp ?_))
    exact sc_piecesof (d := D' + 7) hp a1.2.1 h8 (am_back (v163_17 hp (kk I' J' a1.q a2 a3)))
  · rw [qSt_f hb] at kk
    exact kk
noncomputable def aCm (w : Nat → Int32) (T : TX) (x : Nat) : Int32 := if x = 0 then ni (cmN w T 8) else ni (pcN w T (cmN w T 8))
theorem sr_commonest (hp : am_PF Pf) (hG : WG w) (hs : sndW w) {I : am_I} (hQ : rQ I w T) {D : Nat} (hD : 100 ≤ D) {x1 : Int32} (kk : rA P J Pf w T I cd1 (qSt 1 (aCm w T) x1)) : am_mth D 298 [.ref 163, .int x1] (am_SH, I, J, Pf) P := by
  obtain ⟨D', rfl⟩ : ∃ D', D = D' + 6 := ⟨D - 6, by omega⟩
  have h24 := hQ.2.2.1.2.1
  refine am_mth_of rfl rfl (v298_0 hp ?_)
  by_cases c1 : x1 < 0
  · rw [if_pos c1]
    rw [qSt_f (inW_lo (by omega) c1)] at kk
    exact kk
  · rw [if_neg c1]
    by_cases c2 : (1 : Int32) < x1
    · rw [if_pos c2]
      rw [qSt_f (inW_hi (n := 1) (by omega) c2)] at kk
      exact kk
    · rw [if_neg c2]
      obtain ⟨s, hs1, hs7⟩ := inW_of (n := 1) (by omega) c1 c2
      subst hs1
      rw [qSt_t hs7 (by omega)] at kk
      refine sr_gk hp hG hs hQ (by omega) (fun I' a1 a2 a3 a4 => am_back (v298_26 hp ?_))
      have hK := a1.kn a2
      have LP : ∀ (m c : Nat), 8 - c = m → 1 ≤ c → c ≤ 8 → am_go none (D' + 5) 298 (30, [some (.ref 163), some (.int (ni s)), some (.int (ni (cmN w T c))), some (.int (ni c))], [], (am_SH, I', J, Pf), 0, 0) P := by
        intro m
        induction m with
        | zero =>
          intro c hm hc1 hc8
          have : c = 8 := by omega
          subst this
          have hl := cmN_lt (w := w) (T := T) 8 (by omega)
          have := kk I' a1 a3 a4
          unfold aCm at this
          refine v298_30 hp ?_
          rw [if_pos (show (8 : Int32) ≤ ni 8 from by decide)]
          by_cases c0 : s = 0
          · rw [if_pos ((leq 0 (by omega) (by omega)).mpr c0)]
            rw [if_pos c0] at this
            exact this
          · rw [if_neg (fun z => c0 ((leq 0 (by omega) (by omega)).mp z))]
            rw [if_neg c0] at this
            exact sr_piecesof (d := D' + 2) hp hK hl (am_back (v298_70 hp this))
        | succ m ih =>
          intro c hm hc1 hc8
          have hl := cmN_lt (w := w) (T := T) c hc1
          have b1 := pcN_le (w := w) (s := c) h24
          have b2 := pcN_le (w := w) (s := cmN w T c) h24
          refine v298_30 hp ?_
          rw [if_neg (fun z => absurd ((gle 8 (by omega) (by omega)).mp z) (by omega))]
          refine sr_piecesof (d := D' + 2) hp hK (by omega) (am_back (v298_41 hp ?_))
          refine sr_piecesof (d := D' + 2) hp hK (by omega) (am_back (v298_46 hp ?_))
          rw [ni_p1]
          have := ih (c + 1) (by omega) (by omega) (by omega)
          have e : cmN w T (c + 1) = if pcN w T (cmN w T c) < pcN w T c then c else cmN w T c := rfl
          rw [e] at this
          by_cases c3 : pcN w T (cmN w T c) < pcN w T c
          · rw [if_neg (fun z => absurd ((ni_le (by omega) (by omega)).mp z) (by omega))]
            rw [if_pos c3] at this
            exact this
          · rw [if_pos ((ni_le (by omega) (by omega)).mpr (by omega))]
            rw [if_neg c3] at this
            exact this
      have e1 : cmN w T 1 = 0 := by
        have := cmN_lt (w := w) (T := T) 1 (by omega)
        omega
      have := LP 7 1 rfl (by omega) (by omega)
      rw [e1] at this
      exact this
theorem sc_commonest (hp : am_PF Pf) (hr : r = 16 ∨ r = 55) (hF : cFn Pf r) (hG : WG w) (hs : sndW w) {I : am_I} (hQ : cQ r I J w T) {D : Nat} (hD : 130 ≤ D) {x1 : Int32} (kk : cA P Pf r w T I J (qSt 1 (aCm w T) x1)) : am_mth D 168 [.ref 0, .int x1] (am_SH, I, J, Pf) P := by
  obtain ⟨D', rfl⟩ : ∃ D', D = D' + 10 := ⟨D - 10, by omega⟩
  have h24 := hQ.2.1.2.1
  refine am_mth_of rfl rfl (v168_0 hp ?_)
  refine sc_in (d := D' + 3) (n := 1) hp (by omega) (fun s hs1 hs7 => am_back (v168_7 hp ?_)) (fun hb => am_thru rfl ?_)
  · subst hs1
    rw [qSt_t hs7 (by omega)] at kk
    refine sc_gk hp hr hF hG hs hQ (by omega) (fun I' J' a1 a2 a3 a4 => am_back (v168_11 hp ?_))
    have LP : ∀ (m c : Nat), 8 - c = m → 1 ≤ c → c ≤ 8 → am_go none (D' + 9) 168 (15, [some (.ref 0), some (.int (ni s)), some (.int (ni (cmN w T c))), some (.int (ni c))], [], (am_SH, I', J', Pf), 0, 0) P := by
      intro m
      induction m with
      | zero =>
        intro c hm hc1 hc8
        have : c = 8 := by omega
        subst this
        have hl := cmN_lt (w := w) (T := T) 8 (by omega)
        have := kk I' J' a1.q a2 a3
        unfold aCm at this
        refine v168_15 hp ?_
        rw [if_pos (show (8 : Int32) ≤ ni 8 from by decide)]
        by_cases c0 : s = 0
        · rw [if_pos ((leq 0 (by omega) (by omega)).mpr c0)]
          rw [if_pos c0] at this
          exact this
        · rw [if_neg (fun z => c0 ((leq 0 (by omega) (by omega)).mp z))]
          rw [if_neg c0] at this
          exact sc_piecesof (d := D' + 7) hp a1.2.1 hl (am_back (v168_64 hp this))
      | succ m ih =>
        intro c hm hc1 hc8
        have hl := cmN_lt (w := w) (T := T) c hc1
        have b1 := pcN_le (w := w) (s := c) h24
        have b2 := pcN_le (w := w) (s := cmN w T c) h24
        refine v168_15 hp ?_
        rw [if_neg (fun z => absurd ((gle 8 (by omega) (by omega)).mp z) (by omega))]
        refine sc_piecesof (d := D' + 7) hp a1.2.1 (by omega) (am_back (v168_29 hp ?_))
        refine sc_piecesof (d := D' + 7) hp a1.2.1 (by omega) (am_back (v168_37 hp ?_))
        rw [ni_p1]
        have := ih (c + 1) (by omega) (by omega) (by omega)
        have e : cmN w T (c + 1) = if pcN w T (cmN w T c) < pcN w T c then c else cmN w T c := rfl
        rw [e] at this
        by_cases c3 : pcN w T (cmN w T c) < pcN w T c
        · rw [if_neg (fun z => absurd ((ni_le (by omega) (by omega)).mp z) (by omega))]
          rw [if_pos c3] at this
          exact this
        · rw [if_pos ((ni_le (by omega) (by omega)).mpr (by omega))]
          rw [if_neg c3] at this
          exact this
    have e1 : cmN w T 1 = 0 := by
      have := cmN_lt (w := w) (T := T) 1 (by omega)
      omega
    have := LP 7 1 rfl (by omega) (by omega)
    rw [e1] at this
    exact this
  · rw [qSt_f hb] at kk
    exact kk
theorem sr_en (hp : am_PF Pf) (hG : WG w) (hs : sndW w) {I : am_I} (hQ : rQ I w T) {D : Nat} (hD : 100 ≤ D) {x1 x2 : Int32} (kk : rA P J Pf w T I cd1 (qPc T.1 (fun s i _ => aEn w T s i) x1 x2 x2)) : am_mth D 291 [.ref 163, .int x1, .int x2] (am_SH, I, J, Pf) P := by
  obtain ⟨D', rfl⟩ : ∃ D', D = D' + 4 := ⟨D - 4, by omega⟩
  have h24 := hQ.2.2.1.2.1
  refine am_mth_of rfl rfl (v291_0 hp ?_)
  refine sr_isp (d := D' + 1) hp h24 am_u_same ((am_u_nq (by omega)).trans hQ.2.2.1.1) (fun s i j h1 h2 h3 h8 hij hj => am_back (v291_12 hp ?_)) (fun hb => am_back (v291_12 hp ?_))
  · rw [if_neg (by decide)]
    have hin : i ≤ T.1 := by omega
    subst h1 h2
    rw [qPc_t h8 (Nat.le_refl _) hin h24] at kk
    refine sr_gk hp hG hs hQ (by omega) (fun I' a1 a2 a3 a4 => am_back (v291_21 hp ?_))
    have hK := a1.kn a2
    have LP : ∀ (m e : Nat) (u : Int32), T.1 + 1 - e = m → i ≤ e → e ≤ T.1 + 1 → bts u (fun j => i ≤ j ∧ j < e ∧ 0 < HHx w 3 T s i j) → am_go none (D' + 3) 291 (26, [some (.ref 163), some (.int (ni s)), some (.int (ni i)), some (.int u), some (.int (ni e))], [], (am_SH, I', J, Pf), 0, 0) P := by
      intro m
      induction m with
      | zero =>
        intro e u hm hie he hu
        have : e = T.1 + 1 := by omega
        subst this
        refine v291_26 hp ?_
        rw [hK.2.2.1, if_pos ((ni_lt (by omega) (by omega)).mpr (by omega))]
        have := kk I' a1 a3 a4
        rw [show aEn w T s i = u from bsV_eq (bts.of hu (fun j _ => ⟨fun z => ⟨z.1, by omega, z.2.2⟩, fun z => ⟨z.1, by omega, z.2.2⟩⟩))] at this
        exact this
      | succ m ih =>
        intro e u hm hie he hu
        have hh := hK.h h24 h8 hie (show e ≤ T.1 by omega)
        have hx := ix0 h8 (show i < 25 by omega) (show e < 25 by omega)
        refine v291_26 hp ?_
        rw [hK.2.2.1, if_neg (fun z => absurd ((ni_lt (by omega) (by omega)).mp z) (by omega)), hx.1, hx.2.2, hh.1, ni_p1 e]
        refine ⟨hx.2.1, ?_⟩
        by_cases c : HHx w 3 T s i e = 0
        · rw [if_pos ((lle 0 (by omega) (by omega)).mpr (by omega))]
          refine ih (e + 1) _ (by omega) (by omega) (by omega) (bts.of (bts_or hu (bts_0 (P := fun _ => False) (fun _ _ z => z))) (fun j _ => ?_))
          constructor
          · rintro (z | z)
            · exact ⟨z.1, by omega, z.2.2⟩
            · exact z.elim
          · rintro ⟨z1, z2, z3⟩
            by_cases ej : j = e
            · subst ej; omega
            · exact Or.inl ⟨z1, by omega, z3⟩
        · rw [if_neg (fun z => absurd ((lle 0 (by omega) (by omega)).mp z) (by omega))]
          refine ih (e + 1) _ (by omega) (by omega) (by omega) (bts.of (bts_or hu (bts_one (a := e) (by omega))) (fun j _ => ?_))
          constructor
          · rintro (z | z)
            · exact ⟨z.1, by omega, z.2.2⟩
            · subst z; exact ⟨hie, by omega, Nat.pos_of_ne_zero c⟩
          · rintro ⟨z1, z2, z3⟩
            by_cases ej : j = e
            · exact Or.inr ej
            · exact Or.inl ⟨z1, by omega, z3⟩
    exact LP _ i 0 rfl (Nat.le_refl _) (by omega) (bts_0 (fun j _ z => by omega))
  · rw [if_pos rfl, rTh_eq]
    rw [qPc_f hb] at kk
    exact kk
end CNT
