/-! Which signs fit: the reference's answer -/
theorem r3_b0 {x k : Nat} (hx : x < 32) : r3 ((1 : Int32) <<< (ni x &&& 31)) 0 0 k = decide (k = x) := by
  unfold r3
  by_cases h : k < 32
  · rw [if_pos h, bI_one hx h]
  · rw [if_neg h, bI_0, bI_0, decide_eq_false (by omega)]
    split <;> rfl
theorem r3_b1 {x k : Nat} (hx : 32 ≤ x) (hx2 : x < 64) : r3 0 ((1 : Int32) <<< ((ni x - 32) &&& 31)) 0 k = decide (k = x) := by
  rw [show ni x - 32 = ni (x - 32) from ni_sub (b := 32) hx]
  unfold r3
  by_cases h : k < 32
  · rw [if_pos h, bI_0, decide_eq_false (by omega)]
  · rw [if_neg h]
    by_cases h2 : k < 64
    · rw [if_pos h2, bI_one (by omega) (by omega), decide_eq_decide]
      omega
    · rw [if_neg h2, bI_0, decide_eq_false (by omega)]
theorem r3_b2 {x k : Nat} (hx : 64 ≤ x) (hx2 : x < 95) (hk : k < 95) : r3 0 0 ((1 : Int32) <<< ((ni x - 64) &&& 31)) k = decide (k = x) := by
  rw [show ni x - 64 = ni (x - 64) from ni_sub (b := 64) hx]
  unfold r3
  by_cases h : k < 32
  · rw [if_pos h, bI_0, decide_eq_false (by omega)]
  · rw [if_neg h]
    by_cases h2 : k < 64
    · rw [if_pos h2, bI_0, decide_eq_false (by omega)]
    · rw [if_neg h2, bI_one (by omega) (by omega), decide_eq_decide]
      omega
/-- three ints that hold the signs found so far -/
def r3F (a b c : Int32) (f : Nat → Bool) (n : Nat) : Prop := (∀ k, k < 95 → r3 a b c k = (decide (k < n) && f k)) ∧ bI c 31 = false
theorem r3F.next {a b c a' b' c' : Int32} {f : Nat → Bool} {n : Nat} (h : r3F a b c f n) (hn : n < 95) (hf : f n = true) (hs : ∀ k, k < 95 → r3 a' b' c' k = decide (k = n)) (hc : bI c' 31 = false) : r3F (a ||| a') (b ||| b') (c ||| c') f (n + 1) := by
  refine ⟨fun k hk => ?_, by rw [bI_or, h.2, hc]; rfl⟩
  rw [r3_or, h.1 k hk, hs k hk]
  by_cases e : k = n
  · subst e
    rw [hf, decide_eq_true rfl, Bool.or_true, decide_eq_true (by omega)]
    rfl
  · rw [decide_eq_false e, Bool.or_false]
    congr 1
    rw [decide_eq_decide]
    omega
theorem r3F.skip {a b c : Int32} {f : Nat → Bool} {n : Nat} (h : r3F a b c f n) (hf : f n = false) : r3F a b c f (n + 1) := by
  refine ⟨fun k hk => ?_, h.2⟩
  rw [h.1 k hk]
  by_cases e : k = n
  · subst e
    rw [hf, Bool.and_false, Bool.and_false]
  · congr 1
    rw [decide_eq_decide]
    omega
theorem r3_inj {a b c a' b' c' : Int32} (h : ∀ k, k < 95 → r3 a b c k = r3 a' b' c' k) (h1 : bI c 31 = false) (h2 : bI c' 31 = false) : a = a' ∧ b = b' ∧ c = c' := by
  refine ⟨bI_ext (fun k hk => ?_), bI_ext (fun k hk => ?_), bI_ext (fun k hk => ?_)⟩
  · have := h k (by omega)
    unfold r3 at this
    rwa [if_pos hk, if_pos hk] at this
  · have := h (k + 32) (by omega)
    unfold r3 at this
    rwa [if_neg (show ¬ k + 32 < 32 by omega), if_neg (show ¬ k + 32 < 32 by omega), if_pos (show k + 32 < 64 by omega), if_pos (show k + 32 < 64 by omega), show k + 32 - 32 = k by omega] at this
  · by_cases e : k = 31
    · subst e; rw [h1, h2]
    · have := h (k + 64) (by omega)
      unfold r3 at this
      rwa [if_neg (show ¬ k + 64 < 32 by omega), if_neg (show ¬ k + 64 < 32 by omega), if_neg (show ¬ k + 64 < 64 by omega), if_neg (show ¬ k + 64 < 64 by omega), show k + 64 - 64 = k by omega] at this
theorem ls_next {f : Nat → Bool} {n : Nat} : lsP f (n + 1) = if lsP f n = -1 ∧ f n = true then ni (32 + n) else lsP f n := rfl
theorem cnt_next {f : Nat → Bool} {n : Nat} : cntN f (n + 1) = cntN f n + (if f n = true then 1 else 0) := rfl
section FTR
variable {P : am_O → Prop} {J : am_J} {Pf : am_R} {T : TX} {w : Nat → Int32}
theorem sr_isjust (hp : am_PF Pf) (hG : WG w) {I : am_I} (hg : I 167 = w) {f : Nat → Bool} {a b c : Int32} (hf : r3F a b c f 95) {k : Nat} (hk : k < wN w 0) {d : Nat} (kk1 : (∀ x, x < 95 → wCls w k x = f x) → P (.inl (some (.int 1)), (am_SH, I, J, Pf), 0, 0)) (kk0 : ¬ (∀ x, x < 95 → wCls w k x = f x) → P (.inl (some (.int 0)), (am_SH, I, J, Pf), 0, 0)) : am_mth (d + 2) 314 [.ref 163, .int (ni k), .int a, .int b, .int c] (am_SH, I, J, Pf) P := by
  have w0' := hG.1.1.2
  have h31 := hG.1.2.2.2.2.2 k hk
  have eq : (w (8 + 3 * k) = a ∧ w (8 + 3 * k + 1) = b ∧ w (8 + 3 * k + 2) = c) ↔ ∀ x, x < 95 → wCls w k x = f x := by
    constructor
    · rintro ⟨e1, e2, e3⟩ x hx
      unfold wCls
      rw [e1, e2, e3, hf.1 x hx, decide_eq_true hx, Bool.true_and]
    · intro h
      refine r3_inj (fun x hx => ?_) h31 hf.2
      rw [hf.1 x hx, decide_eq_true hx, Bool.true_and]
      exact h x hx
  refine am_mth_of rfl rfl (v314_0 hp ?_)
  rw [show (3 : Int32) = ni 3 from rfl, ni_mul, show (8 : Int32) + ni (3 * k) = ni (8 + 3 * k) from ni_add 8 _, ni_p1, ni_p2, ni_nat (show 8 + 3 * k < 2147483648 by omega), ni_nat (show 8 + 3 * k + 1 < 2147483648 by omega), ni_nat (show 8 + 3 * k + 2 < 2147483648 by omega), hg]
  refine ⟨ni_in (by omega) (by omega), ?_⟩
  by_cases e1 : w (8 + 3 * k) = a
  · rw [if_pos e1]
    refine ⟨ni_in (by omega) (by omega), ?_⟩
    by_cases e2 : w (8 + 3 * k + 1) = b
    · rw [if_pos e2]
      refine ⟨ni_in (by omega) (by omega), ?_⟩
      by_cases e3 : w (8 + 3 * k + 2) = c
      · rw [if_pos e3]
        exact kk1 (eq.mp ⟨e1, e2, e3⟩)
      · rw [if_neg e3]
        exact kk0 (fun z => e3 (eq.mpr z).2.2)
    · rw [if_neg e2]
      exact kk0 (fun z => e2 (eq.mpr z).2.1)
  · rw [if_neg e1]
    exact kk0 (fun z => e1 (eq.mpr z).1)
theorem sr_fitq (hp : am_PF Pf) (hG : WG w) (hs : sndW w) {I : am_I} (hQ : rQ I w T) {D : Nat} (hD : 120 ≤ D) {x1 x2 x3 : Int32} (kk : rA P J Pf w T I cd2 (qFt T.1 (aFt w T) x1 x2 x3)) : am_mth D 315 [.ref 163, .int x1, .int x2, .int x3] (am_SH, I, J, Pf) P := by
  obtain ⟨D', rfl⟩ : ∃ D', D = D' + 6 := ⟨D - 6, by omega⟩
  have h24 := hQ.2.2.1.2.1
  have hTo := hQ.2.2.2.1
  obtain ⟨⟨w0, w0'⟩, -⟩ := id hG.1
  refine am_mth_of rfl rfl (v315_0 hp ?_)
  by_cases c1 : x2 < 0
  · rw [if_pos c1]
    rw [qFt_0 (inC_lo (by omega) c1)] at kk
    exact kk
  rw [if_neg c1, hQ.2.2.1.1]
  by_cases c2 : ni T.1 - 1 < x2
  · rw [if_pos c2]
    rw [qFt_0 (inC_hi (by omega) ((ni_m1lt (by omega) c1).mp c2))] at kk
    exact kk
  rw [if_neg c2]
  have hpC := inC_of (n := T.1) (by omega) c1 (fun z => c2 ((ni_m1lt (by omega) c1).mpr z))
  by_cases c3 : x1 < 0
  · rw [if_pos c3]
    rw [qFt_1 hpC (fun z => inW_lo (by omega) c3 z.1)] at kk
    exact kk
  rw [if_neg c3]
  by_cases c4 : (7 : Int32) < x1
  · rw [if_pos c4]
    rw [qFt_1 hpC (fun z => inW_hi (n := 7) (by omega) c4 z.1)] at kk
    exact kk
  rw [if_neg c4]
  by_cases c5 : x3 < 0
  · rw [if_pos c5]
    rw [qFt_1 hpC (fun z => inW_lo (by omega) c5 z.2)] at kk
    exact kk
  rw [if_neg c5]
  by_cases c6 : (2 : Int32) < x3
  · rw [if_pos c6]
    rw [qFt_1 hpC (fun z => inW_hi (n := 2) (by omega) c6 z.2)] at kk
    exact kk
  rw [if_neg c6]
  obtain ⟨pl, hpl, hpln⟩ := hpC
  obtain ⟨s, hs1, h7⟩ := inW_of (n := 7) (by omega) c3 c4
  obtain ⟨c, hc, hc2⟩ := inW_of (n := 2) (by omega) c5 c6
  subst hpl hs1 hc
  rw [qFt_t hpln (by omega) h7 hc2] at kk
  -- behind the loop over the signs: the first class that is like
  have FC : ∀ (a b e : Int32) (I1 : am_I) (l1 l2 l10 : Option Value), r3F a b e (fitF w T s pl) 95 → rQ I1 w T → rQf I I1 → I1 163 0 = 0 → am_go none (D' + 5) 315 (231, [some (.ref 163), l1, l2, some (.int (ni c)), some (.int (ni (cntN (fitF w T s pl) 95))), some (.int (lsP (fitF w T s pl) 95)), some (.int a), some (.int b), some (.int e), some (.int (-1)), some (.int (ni (wN w 0) - 1))], [], (am_SH, I1, J, Pf), 0, 0) P := by
    intro a b e I1 l1 l2 l10 g1 g2 g3 g4
    have hle := cnt_le (f := fitF w T s pl) 95
    have hkk := kk I1 g2 g3 g4
    unfold aFt at hkk
    have LP : ∀ (m j : Nat), wN w 0 - j = m → j ≤ wN w 0 → am_go none (D' + 5) 315 (231, [some (.ref 163), l1, l2, some (.int (ni c)), some (.int (ni (cntN (fitF w T s pl) 95))), some (.int (lsP (fitF w T s pl) 95)), some (.int a), some (.int b), some (.int e), some (.int (if cntN (fitF w T s pl) 95 = 0 then -1 else fcK w (fitF w T s pl) m j)), some (.int (ni j - 1))], [], (am_SH, I1, J, Pf), 0, 0) P := by
      have key : ∀ (j m : Nat), wN w 0 - j = m → j ≤ wN w 0 → am_go none (D' + 5) 315 (231, [some (.ref 163), l1, l2, some (.int (ni c)), some (.int (ni (cntN (fitF w T s pl) 95))), some (.int (lsP (fitF w T s pl) 95)), some (.int a), some (.int b), some (.int e), some (.int (if cntN (fitF w T s pl) 95 = 0 then -1 else fcK w (fitF w T s pl) m j)), some (.int (ni j - 1))], [], (am_SH, I1, J, Pf), 0, 0) P := by
        intro j
        induction j with
        | zero =>
          intro m hm hj
          obtain rfl : m = wN w 0 := by omega
          refine v315_231 hp ?_
          rw [if_pos (show ni 0 - 1 < (0 : Int32) from by decide)]
          have ec : c = 0 ∨ c = 1 ∨ c = 2 := by omega
          rcases ec with rfl | rfl | rfl
          · rw [if_pos rfl] at hkk
            rw [if_pos (by decide)]; exact hkk
          · rw [if_neg (by decide), if_pos rfl] at hkk
            rw [if_neg (by decide), if_pos (by decide)]; exact hkk
          · rw [if_neg (by decide), if_neg (by decide)] at hkk
            rw [if_neg (by decide), if_neg (by decide)]; exact hkk
        | succ j ih =>
          intro m hm hj
          have hjm : ni (j + 1) - 1 = ni j := ni_sub (a := j + 1) (b := 1) (by omega)
          have hjm2 : ni j + -1 = ni j - 1 := (Int32.sub_eq_add_neg ..).symm
          have e1 : fcK w (fitF w T s pl) (m + 1) j = cif (∀ x, x < 95 → wCls w j x = fitF w T s pl x) (ni j) (fcK w (fitF w T s pl) m (j + 1)) := rfl
          have nx := ih (m + 1) (by omega) (by omega)
          rw [e1] at nx
          refine v315_231 hp ?_
          rw [hjm, hjm2, if_neg (ni_ge0 (by omega))]
          by_cases cz : cntN (fitF w T s pl) 95 = 0
          · rw [if_pos cz] at nx
            rw [if_pos ((lle 0 (by omega) (by omega)).mpr (by omega)), if_pos cz]
            exact nx
          · rw [if_neg cz] at nx
            rw [if_neg (fun z => cz (by have := (lle 0 (by omega) (by omega)).mp z; omega)), if_neg cz]
            refine sr_isjust (d := D' + 3) hp hG g2.1 g1 (show j < wN w 0 by omega) (fun z => am_back (v315_253 hp ?_)) (fun z => am_back (v315_253 hp ?_))
            · rw [cif_t z] at nx
              rw [if_neg (by decide), hjm2]; exact nx
            · rw [cif_f z] at nx
              rw [if_pos rfl, hjm2]; exact nx
      exact fun m j => key j m
    have := LP 0 (wN w 0) (by omega) (Nat.le_refl _)
    have e0 : (if cntN (fitF w T s pl) 95 = 0 then (-1 : Int32) else fcK w (fitF w T s pl) 0 (wN w 0)) = -1 := by
      split <;> rfl
    rw [e0] at this
    exact this
  have LS : ∀ (m x : Nat) (a b e : Int32) (I1 : am_I) (l10 : Option Value), 95 - x = m → x ≤ 95 → r3F a b e (fitF w T s pl) x → rQ I1 w T → rQf I I1 → I1 163 0 = 0 → am_go none (D' + 5) 315 (80, [some (.ref 163), some (.int (ni s)), some (.int (ni pl)), some (.int (ni c)), some (.int (ni (cntN (fitF w T s pl) x))), some (.int (lsP (fitF w T s pl) x)), some (.int a), some (.int b), some (.int e), some (.int (ni x)), l10], [], (am_SH, I1, J, Pf), 0, 0) P := by
    intro m
    induction m with
    | zero =>
      intro x a b e I1 l10 hm hx g1 g2 g3 g4
      obtain rfl : x = 95 := by omega
      refine v315_80 hp ?_
      rw [if_pos (show (95 : Int32) ≤ ni 95 from by decide), congrFun g2.1 0, w0]
      exact FC a b e I1 _ _ l10 g1 g2 g3 g4
    | succ m ih =>
      intro x a b e I1 l10 hm hx g1 g2 g3 g4
      have hx95 : x < 95 := by omega
      refine v315_80 hp ?_
      rw [if_neg (fun z => absurd ((gle 95 (by omega) (by omega)).mp z) (by omega))]
      refine sr_take (d := D' + 3) hp g2.2.2.1 (fun I2 b1 b2 => am_back (v315_91 hp ?_))
      rw [show (1 : Int32) + ni pl = ni (1 + pl) from ni_add 1 _, ni_nat (show 1 + pl < 2147483648 by omega), show (32 : Int32) + ni x = ni (32 + x) from ni_add 32 _]
      refine ⟨ni_in (by omega) (by omega), ?_⟩
      have hB : rTx 181 (am_u I2 181 (1 + pl) (ni (32 + x))) (T.1, fu T.2 pl (ni (32 + x))) := by
        refine ⟨by rw [am_u_nq (by omega)]; exact b1.1, h24, fun i hi => ?_⟩
        show _ = fu T.2 pl (ni (32 + x)) i
        unfold fu
        by_cases e : i = pl
        · subst e; rw [if_pos rfl]; exact am_u_same
        · rw [if_neg e, am_u_nq (by omega)]; exact b1.2.2 i hi
      have hBo : txOK (T.1, fu T.2 pl (ni (32 + x))) := ⟨h24, fun i hi => by
        show isSg (fu T.2 pl (ni (32 + x)) i) = true
        unfold fu
        split
        · have a1 : (32 : Int32) ≤ ni (32 + x) := (gle 32 (by omega) (by omega)).mpr (by omega)
          have a2 : ni (32 + x) ≤ (126 : Int32) := (lle 126 (by omega) (by omega)).mpr (by omega)
          exact decide_eq_true ⟨a1, a2⟩
        · exact hTo.2 i hi⟩
      have hf0 : ∀ o k, o ≠ 181 → (am_u I2 181 (1 + pl) (ni (32 + x))) o k = I1 o k := fun o k e => by rw [am_u_nq (by omega)]; exact b2 o k e
      have hQ2 : rQ (am_u I2 181 (1 + pl) (ni (32 + x))) w T := g2.of (fun o y ho => hf0 o y (by omega))
      refine sr_sortsnow hp hG hs hQ2 hB hBo (by omega) (fun I3 v a1 a2 a3 => am_back (v315_108 hp ?_))
      have hf3 : rQf I I3 := g3.trans (fun o k e1 e2 e3 e4 => by rw [a3 o k (by omega) (by omega), hf0 o k e2])
      have h30 : I3 163 0 = 0 := by rw [a3 _ _ (by omega) (by omega), hf0 _ _ (by omega)]; exact g4
      have nx := fun (a' b' e' : Int32) (g : r3F a' b' e' (fitF w T s pl) (x + 1)) => ih (x + 1) a' b' e' I3 l10 (by omega) (by omega) g a1 hf3 h30
      rw [ls_next, cnt_next] at nx
      by_cases c0 : 0 < HHx w 3 (T.1, fu T.2 pl (ni (32 + x))) s 0 T.1
      · have ef : fitF w T s pl x = true := decide_eq_true c0
        rw [if_neg (fun z => (bts_s0 a2 (by omega)).mp z ⟨by omega, c0⟩)]
        rw [ef, if_pos rfl] at nx
        rw [ni_p1, ni_p1]
        have e0 : ∀ y : Int32, y ||| 0 = y := fun y => Int32.or_zero
        by_cases cl : lsP (fitF w T s pl) x = -1
        · rw [if_pos ⟨cl, rfl⟩] at nx
          rw [if_pos cl]
          by_cases h32 : x < 32
          · rw [if_neg (fun z => absurd ((gle 32 (by omega) (by omega)).mp z) (by omega)), if_pos ((llt 32 (by omega) (by omega)).mpr h32), if_pos ((llt 64 (by omega) (by omega)).mpr (by omega)), show (32 : Int32) + ni x = ni (32 + x) from ni_add 32 _]
            exact nx _ _ _ (g1.next hx95 ef (fun k hk => r3_b0 h32) bI_0)
          · rw [if_pos ((gle 32 (by omega) (by omega)).mpr (by omega)), if_neg (fun z => h32 ((llt 32 (by omega) (by omega)).mp z))]
            by_cases h64 : x < 64
            · rw [if_neg (fun z => absurd ((gle 64 (by omega) (by omega)).mp z) (by omega)), if_pos ((llt 64 (by omega) (by omega)).mpr h64), show (32 : Int32) + ni x = ni (32 + x) from ni_add 32 _]
              exact nx _ _ _ (g1.next hx95 ef (fun k hk => r3_b1 (by omega) h64) bI_0)
            · rw [if_pos ((gle 64 (by omega) (by omega)).mpr (by omega)), if_neg (fun z => h64 ((llt 64 (by omega) (by omega)).mp z)), show (32 : Int32) + ni x = ni (32 + x) from ni_add 32 _]
              exact nx _ _ _ (g1.next hx95 ef (fun k hk => r3_b2 (by omega) hx95 hk) (by rw [show ni x - 64 = ni (x - 64) from ni_sub (b := 64) (by omega), bI_one (by omega) (by omega)]; exact decide_eq_false (by omega)))
        · rw [if_neg (fun z => cl z.1)] at nx
          rw [if_neg cl]
          by_cases h32 : x < 32
          · rw [if_neg (fun z => absurd ((gle 32 (by omega) (by omega)).mp z) (by omega)), if_pos ((llt 32 (by omega) (by omega)).mpr h32), if_pos ((llt 64 (by omega) (by omega)).mpr (by omega))]
            exact nx _ _ _ (g1.next hx95 ef (fun k hk => r3_b0 h32) bI_0)
          · rw [if_pos ((gle 32 (by omega) (by omega)).mpr (by omega)), if_neg (fun z => h32 ((llt 32 (by omega) (by omega)).mp z))]
            by_cases h64 : x < 64
            · rw [if_neg (fun z => absurd ((gle 64 (by omega) (by omega)).mp z) (by omega)), if_pos ((llt 64 (by omega) (by omega)).mpr h64)]
              exact nx _ _ _ (g1.next hx95 ef (fun k hk => r3_b1 (by omega) h64) bI_0)
            · rw [if_pos ((gle 64 (by omega) (by omega)).mpr (by omega)), if_neg (fun z => h64 ((llt 64 (by omega) (by omega)).mp z))]
              exact nx _ _ _ (g1.next hx95 ef (fun k hk => r3_b2 (by omega) hx95 hk) (by rw [show ni x - 64 = ni (x - 64) from ni_sub (b := 64) (by omega), bI_one (by omega) (by omega)]; exact decide_eq_false (by omega)))
      · have ef : fitF w T s pl x = false := decide_eq_false c0
        rw [if_pos ((bts_s0 a2 (by omega)).mpr (fun z => c0 z.2)), ni_p1]
        rw [ef, if_neg (by decide), if_neg (fun z => absurd z.2 (by decide)), Nat.add_zero] at nx
        exact nx a b e (g1.skip ef)
  rw [show (0 : Int32) = ni 0 from rfl]
  exact LS _ 0 (ni 0) (ni 0) (ni 0) _ _ rfl (Nat.zero_le _) ⟨fun k hk => by rw [show ni 0 = (0 : Int32) from rfl, r3_0, decide_eq_false (by omega), Bool.false_and], bI_0⟩ hQ.z (fun o k e1 e2 e3 e4 => am_u_nq (by omega)) am_u_same
end FTR
