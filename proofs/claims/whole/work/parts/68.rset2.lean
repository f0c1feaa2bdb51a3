/-! Sets of signs: the reference's CE and CT -/
section RR6
variable {J : am_J} {Pf : am_R} {n : Nat} {b : Nat → Int32}
theorem sr_unit_nf (hp : am_PF Pf) {d : Nat} {P : am_O → Prop} {I : am_I} (h5 : ¬ I 163 5 = -1) (kk : P (.inl none, (am_SH, I, J, Pf), 0, 0)) : am_mth (d + 2) 219 [.ref 163] (am_SH, I, J, Pf) P := by
  refine am_mth_of rfl rfl (v219_0 hp ?_)
  rw [if_neg h5]
  exact kk
theorem sr_set_nf (hp : am_PF Pf) {d : Nat} {P : am_O → Prop} {I : am_I} (h5 : ¬ I 163 5 = -1) (kk : P (.inl none, (am_SH, I, J, Pf), 0, 0)) : am_mth (d + 3) 220 [.ref 163] (am_SH, I, J, Pf) P := by
  refine am_mth_of rfl rfl (v220_0 hp (sr_unit_nf (d := d) hp h5 (am_back (v220_4 hp ?_))))
  rw [if_neg h5]
  exact kk
theorem rCl.of {I I' : am_I} {cc : Nat} {cls : Nat → Nat → Bool} (h : rCl I cc cls) (e : I' 166 = I 166) : rCl I' cc cls := by
  unfold rCl at *
  rw [e]
  exact h
theorem rSX.after {I I1 I' : am_I} {z : (Nat → Bool) × Nat} (h : rSX I1 I' b n z) (f : ∀ o k, ¬ (o = 163 ∧ (k = 4 ∨ k = 17 ∨ k = 18 ∨ k = 19)) → I1 o k = I o k) : rSX I I' b n z := ⟨h.1, h.2.1, fun o k e => (h.2.2 o k e).trans (f o k e)⟩
theorem r3_or {x y z x' y' z' : Int32} {k : Nat} : r3 (x ||| x') (y ||| y') (z ||| z') k = (r3 x y z k || r3 x' y' z' k) := by
  unfold r3
  split
  · exact bI_or _ _ _
  · split <;> exact bI_or _ _ _
theorem r3_and {x y z x' y' z' : Int32} {k : Nat} : r3 (x &&& x') (y &&& y') (z &&& z') k = (r3 x y z k && r3 x' y' z' k) := by
  unfold r3
  split
  · exact bI_and _ _ _
  · split <;> exact bI_and _ _ _
theorem r3_not {x y z : Int32} {k : Nat} (h : k < 95) : r3 (x ^^^ (-1)) (y ^^^ (-1)) (z ^^^ (-1)) k = !r3 x y z k := by
  unfold r3
  split
  · exact bI_not (by omega)
  · split <;> exact bI_not (by omega)
theorem r3_not2 {x y z : Int32} {k : Nat} (h : k < 95) : r3 (x ^^^ (-1)) (y ^^^ (-1)) ((z ^^^ (-1)) &&& 2147483647) k = !r3 x y z k := by
  rw [← r3_not h]
  unfold r3
  split
  · rfl
  · split
    · rfl
    · rw [bI_and, bI_hi, decide_eq_true (by omega), Bool.and_true]
/-- the loop of a CE -/
theorem rr_set (hp : am_PF Pf) {u : Nat → (Nat × Nat) ⊕ ((Nat → Bool) × Nat)} {d o cc : Nat} {cls : Nat → Nat → Bool} {P : am_O → Prop} {a0 : Nat}
    (hu : ∀ (I : am_I) (a : Nat) (Q : am_O → Prop), a0 ≤ a → RM I b n a → I 163 5 = -1 → I 163 7 = ni o → rCl I cc cls → rm2 (u a) (fun z => ∀ I', rSX I I' b n z → a < z.2 → Q (.inl none, (am_SH, I', J, Pf), 0, 0)) (fun kd pl => ∀ I', rFF I I' kd pl → pl ≤ 600 → Q (.inl none, (am_SH, I', J, Pf), 0, 0)) → am_mth (d + 3) 219 [.ref 163] (am_SH, I, J, Pf) Q) :
    ∀ (G : Nat) (I : am_I) (a : Nat) (f : Nat → Bool) (l1 l2 l3 l4 : Option Value), n - a < G → a0 ≤ a → RM I b n a → I 163 5 = -1 → I 163 7 = ni o → rCl I cc cls → rSt I f →
    rm2 (mSL b n u G f a) (fun z => ∀ I', rSX I I' b n z → a ≤ z.2 → P (.inl none, (am_SH, I', J, Pf), 0, 0)) (fun kd pl => ∀ I', rFF I I' kd pl → pl ≤ 600 → P (.inl none, (am_SH, I', J, Pf), 0, 0)) →
    am_go none (d + 3) 220 (4, [some (.ref 163), l1, l2, l3, l4], [], (am_SH, I, J, Pf), 0, 0) P := by
  intro G
  induction G with
  | zero => intro I a f l1 l2 l3 l4 hG; omega
  | succ G ih =>
    intro I a f l1 l2 l3 l4 hG ha0 h h5 h7 hC hS kk
    have hq := rsk_le (b := b) h.2.2.2.1
    have hqq := rsk_rsk (b := b) h.2.2.2.1
    unfold mSL at kk
    generalize hqe : rsk b n a = q at *
    have hR := h.at hq.2
    have hI1 : ∀ o k, ¬ (o = 163 ∧ k = 4) → am_u I 163 4 (ni q) o k = I o k := fun o k e => am_u_nq (by omega)
    have m5 : am_u I 163 4 (ni q) 163 5 = -1 := u_5 (by omega) h5
    have hu2 : am_u (am_u I 163 4 (ni q)) 163 4 (ni q) = am_u I 163 4 (ni q) := am_u_u
    refine v220_4 hp ?_
    rw [if_pos h5]
    refine sr_here (d := d + 2) hp h (am_back (v220_15 hp ?_))
    rw [hqe]
    -- behind a sign that goes on
    have on : (hz b n q = 124 ∨ hz b n q = 38 ∨ hz b n q = 45) → am_go none (d + 3) 220 (38, [some (.ref 163), l1, l2, l3, l4], [], (am_SH, am_u I 163 4 (ni q), J, Pf), 0, 0) P := by
      intro hc
      rw [if_pos hc] at kk
      have hlt : q < n := by
        rcases hc with c | c | c <;> exact hz_0 c (by decide)
      refine v220_38 hp (sr_here (d := d + 2) hp hR (am_back (v220_42 hp ?_)))
      rw [hqq, hu2, am_u_same, am_u_u, ni_1, ni_add]
      have hR2 := h.at (a' := q + 1) (by omega)
      have hI2 : ∀ o k, ¬ (o = 163 ∧ k = 4) → am_u I 163 4 (ni (q + 1)) o k = I o k := fun o k e => am_u_nq (by omega)
      rw [hI1 163 17 (by omega), hI1 163 18 (by omega), hI1 163 19 (by omega)]
      refine hu _ (q + 1) _ (by omega) hR2 (u_5 (by omega) h5) (by rw [hI2 _ _ (by omega)]; exact h7) (hC.of (am_u_o (by omega))) ?_
      cases hm : u (q + 1) with
      | inl e =>
        rw [hm] at kk
        intro I' hF hpl
        refine am_back (v220_73 hp ?_)
        have hF0 : rFF I I' e.1 e.2 := rFF.after (rFr.rfl'.u (by simp [rSc])) hF
        have bad : ∀ (x y z : Int32), am_go none (d + 3) 220 (4, [some (.ref 163), some (.int (hz b n q)), some (.int (I 163 17)), some (.int (I 163 18)), some (.int (I 163 19))], [], (am_SH, am_u (am_u (am_u I' 163 17 x) 163 18 y) 163 19 z, J, Pf), 0, 0) P := by
          intro x y z
          have hF3 : rFF I (am_u (am_u (am_u I' 163 17 x) 163 18 y) 163 19 z) e.1 e.2 := hF0.then (((rNF.rfl'.u (by simp [rSc]) (by omega)).u (by simp [rSc]) (by omega)).u (by simp [rSc]) (by omega))
          refine v220_4 hp ?_
          rw [if_neg (hF3.bad (by omega))]
          exact kk _ hF3 hpl
        split
        · exact bad _ _ _
        · split <;> exact bad _ _ _
      | inr z =>
        rw [hm] at kk
        dsimp only [rb] at kk
        intro I' hX hlt2
        refine am_back (v220_73 hp ?_)
        obtain ⟨x1, ⟨x2, x3⟩, x4⟩ := hX
        have nx : ∀ (x y w : Int32), (∀ k, k < 95 → r3 x y w k = sOp (hz b n q) f z.1 k) → bI w 31 = false → am_go none (d + 3) 220 (4, [some (.ref 163), some (.int (hz b n q)), some (.int (I 163 17)), some (.int (I 163 18)), some (.int (I 163 19))], [], (am_SH, am_u (am_u (am_u I' 163 17 x) 163 18 y) 163 19 w, J, Pf), 0, 0) P := by
          intro x y w e1 e2
          have hfr : ∀ o k, ¬ (o = 163 ∧ (k = 4 ∨ k = 17 ∨ k = 18 ∨ k = 19)) → am_u (am_u (am_u I' 163 17 x) 163 18 y) 163 19 w o k = I o k := by
            intro o k e
            rw [am_u_nq (by omega), am_u_nq (by omega), am_u_nq (by omega), x4 o k e, hI2 o k (by omega)]
          have hR3 : RM (am_u (am_u (am_u I' 163 17 x) 163 18 y) 163 19 w) b n z.2 := by
            obtain ⟨m1, m2, m3, m4, m6⟩ := x1
            refine ⟨?_, ?_, ?_, m4, m6⟩
            · rw [am_u_o (by omega), am_u_o (by omega), am_u_o (by omega)]; exact m1
            · rw [am_u_nq (by omega), am_u_nq (by omega), am_u_nq (by omega)]; exact m2
            · rw [am_u_nq (by omega), am_u_nq (by omega), am_u_nq (by omega)]; exact m3
          refine ih _ z.2 (sOp (hz b n q) f z.1) _ _ _ _ (by omega) (by omega) hR3 (by rw [hfr _ _ (by omega)]; exact h5) (by rw [hfr _ _ (by omega)]; exact h7) (hC.of ?_) ⟨?_, ?_⟩ ?_
          · funext k; exact hfr _ _ (by omega)
          · intro k hk
            rw [am_u_nq (by omega), am_u_nq (by omega), am_u_same, am_u_nq (by omega), am_u_same, am_u_same]
            exact e1 k hk
          · rw [am_u_same]; exact e2
          · revert kk
            cases mSL b n u G (sOp (hz b n q) f z.1) z.2 with
            | inl e => exact fun kk I'' hF hpl => kk I'' (rFF.after (fun o k e => hfr o k (fun z => e (by obtain ⟨rfl, rfl | rfl | rfl | rfl⟩ := z <;> simp [rSc]))) hF) hpl
            | inr y => exact fun kk I'' hX hle => kk I'' (rSX.after hX hfr) (by omega)
        have s31 : bI (I 163 19) 31 = false := hS.2
        by_cases d1 : hz b n q = 124
        · rw [if_pos d1]
          refine nx _ _ _ (fun k hk => ?_) (by rw [bI_or, s31, x3]; rfl)
          rw [r3_or, hS.1 k hk, x2 k hk]
          unfold sOp
          rw [if_pos d1]
        · by_cases d2 : hz b n q = 38
          · rw [if_neg d1, if_pos d2]
            refine nx _ _ _ (fun k hk => ?_) (by rw [bI_and, s31]; rfl)
            rw [r3_and, hS.1 k hk, x2 k hk]
            unfold sOp
            rw [if_neg d1, if_pos d2]
          · rw [if_neg d1, if_neg d2]
            refine nx _ _ _ (fun k hk => ?_) (by rw [bI_and, s31]; rfl)
            rw [r3_and, r3_not hk, hS.1 k hk, x2 k hk]
            unfold sOp
            rw [if_neg d1, if_neg d2]
    by_cases c1 : hz b n q = 124
    · rw [if_pos c1]
      exact on (Or.inl c1)
    · rw [if_neg c1]
      refine sr_here (d := d + 2) hp hR (am_back (v220_24 hp ?_))
      rw [hqq, hu2]
      by_cases c2 : hz b n q = 38
      · rw [if_pos c2]
        exact on (Or.inr (Or.inl c2))
      · rw [if_neg c2]
        refine sr_here (d := d + 2) hp hR (am_back (v220_33 hp ?_))
        rw [hqq, hu2]
        by_cases c3 : hz b n q = 45
        · rw [if_pos c3]
          exact on (Or.inr (Or.inr c3))
        · rw [if_neg c3]
          rw [if_neg (by rintro (z | z | z); exact c1 z; exact c2 z; exact c3 z)] at kk
          refine kk _ ⟨hR, ⟨fun k hk => ?_, ?_⟩, fun o k e => hI1 o k (by omega)⟩ hq.1
          · rw [hI1 _ _ (by omega), hI1 _ _ (by omega), hI1 _ _ (by omega)]; exact hS.1 k hk
          · rw [hI1 _ _ (by omega)]; exact hS.2
theorem mRng_lt : ∀ (F a : Nat) (f : Nat → Bool) (z : (Nat → Bool) × Nat), mRng b n F a f = .inr z → a < z.2
  | 0, a, f, z, h => by cases h
  | F + 1, a, f, z, h => by
    have g1 : ∀ a, a ≤ sgA b n a := fun a => by unfold sgA; split <;> omega
    unfold mRng at h
    split at h
    · cases h; exact Nat.lt_succ_self a
    · split at h
      · split at h
        · split at h
          · split at h
            · cases h
            · have := mRng_lt F _ _ z h
              have h1 := g1 a
              have h2 := g1 (sgA b n a + 2)
              omega
          · cases h
        · have := mRng_lt F _ _ z h
          have h1 := g1 a
          omega
      · cases h
theorem rsk_ge {a : Nat} : a ≤ rsk b n a := by
  unfold rsk
  exact (rskF_le b (n - a) a).1
theorem mNum_lt {lim a : Nat} {z : Nat × Nat} (h : mNum b n lim a = .inr z) : a < z.2 ∧ z.1 < lim := by
  unfold mNum at h
  split at h
  · rename_i c
    split at h
    · rename_i c2
      cases h
      refine ⟨?_, c2⟩
      have h1 := rsk_ge (b := b) (n := n) (a := a)
      have hlt : rsk b n a < n := by
        unfold hz at c
        split at c
        · assumption
        · exact absurd c (by decide)
      obtain ⟨f, hf⟩ : ∃ f, n - rsk b n a = f + 1 := ⟨n - rsk b n a - 1, by omega⟩
      rw [show hz b n (rsk b n a) = b (rsk b n a) from if_pos hlt] at c
      rw [hf]
      have h3 : dgF b (f + 1) (rsk b n a) 0 = dgF b f (rsk b n a + 1) (10 * 0 + ((b (rsk b n a)).toNatClampNeg - 48)) := if_pos c
      rw [h3]
      have := (dgF_le b f (rsk b n a + 1) (10 * 0 + ((b (rsk b n a)).toNatClampNeg - 48))).1
      omega
    · cases h
  · cases h
theorem mTake_lt {x : Int32} {a z : Nat} (h : mTake b n x a = .inr z) : a < z := by
  unfold mTake at h
  split at h
  · cases h
    have h1 := rsk_ge (b := b) (n := n) (a := a)
    omega
  · cases h
theorem sr_set (hp : am_PF Pf) {cc : Nat} {cls : Nat → Nat → Bool} : ∀ (F : Nat) (mode : Bool) (o a d : Nat) (I : am_I) (P : am_O → Prop), 2 * (n - a) + (if mode = true then 1 else 2) ≤ F → RM I b n a → I 163 5 = -1 → I 163 7 = ni o → o ≤ 6 → rCl I cc cls → 8 + 3 * (6 - o) + (if mode = true then 0 else 1) ≤ d →
    rm2 (mS b n cc cls F o mode a) (fun z => ∀ I', rSX I I' b n z → a < z.2 → P (.inl none, (am_SH, I', J, Pf), 0, 0)) (fun kd pl => ∀ I', rFF I I' kd pl → pl ≤ 600 → P (.inl none, (am_SH, I', J, Pf), 0, 0)) →
    am_mth d (if mode = true then 219 else 220) [.ref 163] (am_SH, I, J, Pf) P := by
  intro F
  induction F with
  | zero =>
    intro mode o a d I P hF
    cases mode <;> simp at hF
  | succ F ih =>
    intro mode o a d I P hF h h5 h7 ho hC hd kk
    obtain ⟨d, rfl⟩ : ∃ e, d = e + 8 := ⟨d - 8, by omega⟩
    cases mode with
    | false =>
      simp only [Bool.false_eq_true, if_false] at hF hd
      unfold mS at kk
      show am_mth (d + 8) 220 _ _ _
      have un := fun (I : am_I) (a : Nat) (Q : am_O → Prop) (ha : 2 * (n - a) + 1 ≤ F) hR g5 g7 gC => ih true o a (d + 7) I Q ha hR g5 g7 ho gC (by simp only [if_true]; omega)
      refine am_mth_of rfl rfl (v220_0 hp (un I a _ (by omega) h h5 h7 hC ?_))
      cases hm : mS b n cc cls F o true a with
      | inl e =>
        rw [hm] at kk
        intro I' hF' hpl
        refine am_back (v220_4 hp ?_)
        rw [if_neg (hF'.bad (by omega))]
        exact kk I' hF' hpl
      | inr z =>
        rw [hm] at kk
        dsimp only [rb] at kk
        intro I' hX hlt
        refine am_back ?_
        have hn := hX.1.2.2.2.1
        refine rr_set (d := d + 4) (a0 := a) hp (u := mS b n cc cls F o true) (o := o) (cc := cc) (cls := cls) ?_ (n - z.2 + 1) I' z.2 z.1 _ _ _ _ (by omega) (by omega) hX.1 ?_ ?_ (hC.of ?_) hX.2.1 ?_
        · intro I1 a1 Q g0 g1 g2 g3 g4 g5
          exact un I1 a1 Q (by omega) g1 g2 g3 g4 g5
        · rw [hX.2.2 _ _ (by omega)]; exact h5
        · rw [hX.2.2 _ _ (by omega)]; exact h7
        · funext k; exact hX.2.2 _ _ (by omega)
        · revert kk
          cases mSL b n (mS b n cc cls F o true) (n - z.2 + 1) z.1 z.2 with
          | inl e => exact fun kk I'' hF hpl => kk I'' (rFF.after hX.fr hF) hpl
          | inr y => exact fun kk I'' hY hle => kk I'' (rSX.after hY hX.2.2) (by omega)
    | true =>
      simp only [if_true] at hF hd
      unfold mS at kk
      show am_mth (d + 8) 219 _ _ _
      have hq := rsk_le (b := b) h.2.2.2.1
      have hqq := rsk_rsk (b := b) h.2.2.2.1
      generalize hqe : rsk b n a = q at *
      have hR := h.at hq.2
      have hI1 : ∀ o k, ¬ (o = 163 ∧ k = 4) → am_u I 163 4 (ni q) o k = I o k := fun o k e => am_u_nq (by omega)
      have m5 : am_u I 163 4 (ni q) 163 5 = -1 := u_5 (by omega) h5
      have m7 : am_u I 163 4 (ni q) 163 7 = ni o := by rw [hI1 _ _ (by omega)]; exact h7
      have hfr1 : rFr I (am_u I 163 4 (ni q)) := rFr.rfl'.u (by simp [rSc])
      refine am_mth_of rfl rfl (v219_0 hp ?_)
      rw [if_pos h5]
      refine sr_here (d := d + 6) hp h (am_back (v219_12 hp ?_))
      rw [hqe, am_u_same]
      have six : (ni o = 6) ↔ o = 6 := leq 6 (by omega) (by omega)
      have q1 : ¬ (ni q = -1) := ni_neg1 (by have := hR.2.2.2.2; omega)
      have deep : ∀ I', I' = am_u (am_u (am_u I 163 4 (ni q)) 163 4 (ni q + 1)) 163 7 (ni o + 1) → hz b n q ≠ 0 → RM I' b n (q + 1) ∧ I' 163 5 = -1 ∧ I' 163 7 = ni (o + 1) ∧ (∀ o k, ¬ (o = 163 ∧ (k = 4 ∨ k = 7)) → I' o k = I o k) := by
        intro I' e hne
        have hlt := hz_0 rfl hne
        subst e
        rw [am_u_u, ni_1, ni_add, ni_add]
        obtain ⟨g1, g2, g3, g4, g6⟩ := h.at (a' := q + 1) (by omega)
        refine ⟨⟨?_, ?_, ?_, g4, g6⟩, ?_, am_u_same, ?_⟩
        · rw [am_u_o (by omega)]; exact g1
        · rw [am_u_nq (by omega)]; exact g2
        · rw [am_u_nq (by omega)]; exact g3
        · exact u_5 (by omega) (u_5 (by omega) h5)
        · intro o k e
          rw [am_u_nq (by omega), am_u_nq (by omega)]
      by_cases c1 : hz b n q = 126
      · rw [if_pos c1] at kk
        rw [if_pos c1, if_pos m5, m7]
        by_cases c6 : o = 6
        · rw [if_pos c6] at kk
          rw [if_pos (six.mpr c6), if_neg q1]
          have hF3 : rFF I (am_u (am_u (am_u (am_u I 163 4 (ni q)) 163 5 (ni q)) 163 6 3) 163 7 (ni o + 1)) 3 q := (rFF.mark hfr1).then (rNF.rfl'.u (by simp [rSc]) (by omega))
          have hq6 := hR.2.2.2.2
          refine sr_unit_nf (d := d + 5) hp (hF3.bad (by omega)) (am_back (v219_28 hp (kk _ (hF3.then ?_) (by omega))))
          exact (((rNF.rfl'.u (by simp [rSc]) (by omega)).u (by simp [rSc]) (by omega)).u (by simp [rSc]) (by omega)).u (by simp [rSc]) (by omega)
        · rw [if_neg c6] at kk
          rw [if_neg (fun z => c6 (six.mp z))]
          obtain ⟨e1, e2, e3, e4⟩ := deep _ rfl (by rw [c1]; decide)
          refine ih true (o + 1) (q + 1) (d + 7) _ _ (by simp only [if_true]; have := hz_0 c1 (by decide); omega) e1 e2 e3 (by omega) (hC.of (by funext k; exact e4 _ _ (by omega))) (by simp only [if_true]; omega) ?_
          generalize am_u (am_u (am_u I 163 4 (ni q)) 163 4 (ni q + 1)) 163 7 (ni o + 1) = I2 at *
          have hf2 : rFr I I2 := fun o k e => e4 o k (fun z => e (by obtain ⟨rfl, rfl | rfl⟩ := z <;> simp [rSc]))
          cases hm : mS b n cc cls F (o + 1) true (q + 1) with
          | inl e =>
            rw [hm] at kk
            intro I' hF' hpl
            refine am_back (v219_28 hp (kk _ (rFF.then (rFF.after hf2 hF') ?_) hpl))
            exact (((rNF.rfl'.u (by simp [rSc]) (by omega)).u (by simp [rSc]) (by omega)).u (by simp [rSc]) (by omega)).u (by simp [rSc]) (by omega)
          | inr z =>
            rw [hm] at kk
            intro I' hX hlt
            obtain ⟨x1, ⟨x2, x3⟩, x4⟩ := hX
            refine am_back (v219_28 hp (kk _ ⟨?_, ⟨?_, ?_⟩, ?_⟩ (by dsimp only; omega)))
            · obtain ⟨g1, g2, g3, g4, g6⟩ := x1
              refine ⟨?_, ?_, ?_, g4, g6⟩
              · rw [am_u_o (by omega), am_u_o (by omega), am_u_o (by omega), am_u_o (by omega)]; exact g1
              · rw [am_u_nq (by omega), am_u_nq (by omega), am_u_nq (by omega), am_u_nq (by omega)]; exact g2
              · rw [am_u_nq (by omega), am_u_nq (by omega), am_u_nq (by omega), am_u_nq (by omega)]; exact g3
            · intro k hk
              rw [am_u_nq (by omega), am_u_nq (by omega), am_u_same, am_u_nq (by omega), am_u_same, am_u_same, r3_not2 hk, x2 k hk]
            · rw [am_u_same, bI_and, bI_hi]
              simp
            · intro o' k e
              rw [am_u_nq (by omega), am_u_nq (by omega), am_u_nq (by omega)]
              by_cases e7 : o' = 163 ∧ k = 7
              · obtain ⟨rfl, rfl⟩ := e7
                rw [am_u_same, x4 _ _ (by omega), e3, h7, show ni (o + 1) - 1 = ni (o + 1 - 1) from ni_sub (b := 1) (by omega)]
                rfl
              · rw [am_u_nq (by omega), x4 _ _ e, e4 _ _ (by omega)]
      · rw [if_neg c1] at kk ⊢
        by_cases c2 : hz b n q = 40
        · rw [if_pos c2] at kk
          rw [if_pos c2, if_pos m5, m7]
          by_cases c6 : o = 6
          · rw [if_pos c6] at kk
            rw [if_pos (six.mpr c6), if_neg q1]
            have hF3 : rFF I (am_u (am_u (am_u (am_u I 163 4 (ni q)) 163 5 (ni q)) 163 6 3) 163 7 (ni o + 1)) 3 q := (rFF.mark hfr1).then (rNF.rfl'.u (by simp [rSc]) (by omega))
            have hq6 := hR.2.2.2.2
            refine sr_set_nf (d := d + 4) hp (hF3.bad (by omega)) (am_back (v219_82 hp (sr_need_nf (d := d + 4) hp (hF3.bad (by omega)) (am_back (v219_88 hp (kk _ (hF3.then ?_) (by omega)))))))
            exact rNF.rfl'.u (by simp [rSc]) (by omega)
          · rw [if_neg c6] at kk
            rw [if_neg (fun z => c6 (six.mp z))]
            obtain ⟨e1, e2, e3, e4⟩ := deep _ rfl (by rw [c2]; decide)
            refine ih false (o + 1) (q + 1) (d + 7) _ _ (by simp only [Bool.false_eq_true, if_false]; have := hz_0 c2 (by decide); omega) e1 e2 e3 (by omega) (hC.of (by funext k; exact e4 _ _ (by omega))) (by simp only [Bool.false_eq_true, if_false]; omega) ?_
            generalize am_u (am_u (am_u I 163 4 (ni q)) 163 4 (ni q + 1)) 163 7 (ni o + 1) = I2 at *
            have hf2 : rFr I I2 := fun o k e => e4 o k (fun z => e (by obtain ⟨rfl, rfl | rfl⟩ := z <;> simp [rSc]))
            cases hm : mS b n cc cls F (o + 1) false (q + 1) with
            | inl e =>
              rw [hm] at kk
              intro I' hF' hpl
              have hF0 := rFF.after hf2 hF'
              refine am_back (v219_82 hp (sr_need_nf (d := d + 4) hp (hF'.bad (by omega)) (am_back (v219_88 hp (kk _ (hF0.then (rNF.rfl'.u (by simp [rSc]) (by omega))) hpl)))))
            | inr z =>
              rw [hm] at kk
              dsimp only [rb] at kk
              intro I' hX hlt
              obtain ⟨x1, ⟨x2, x3⟩, x4⟩ := hX
              have y5 : I' 163 5 = -1 := by rw [x4 _ _ (by omega)]; exact e2
              have hfX : rFr I I' := hf2.trans (rSX.fr (b := b) (n := n) (z := z) ⟨x1, ⟨x2, x3⟩, x4⟩)
              refine am_back (v219_82 hp (sr_need (d := d + 4) hp (by decide) x1 y5 ?_))
              cases hm2 : mTake b n 41 z.2 with
              | inl e =>
                rw [hm2] at kk
                intro I'' hF' hpl
                have hF0 := rFF.after hfX hF'
                exact am_back (v219_88 hp (kk _ (hF0.then (rNF.rfl'.u (by simp [rSc]) (by omega))) hpl))
              | inr e =>
                rw [hm2] at kk
                have hlt3 := mTake_lt hm2
                intro hR9
                refine am_back (v219_88 hp (kk _ ⟨?_, ⟨?_, ?_⟩, ?_⟩ (by dsimp only; omega)))
                · obtain ⟨g1, g2, g3, g4, g6⟩ := hR9
                  refine ⟨?_, ?_, ?_, g4, g6⟩
                  · rw [am_u_o (by omega)]; exact g1
                  · rw [am_u_nq (by omega)]; exact g2
                  · rw [am_u_nq (by omega)]; exact g3
                · intro k hk
                  rw [am_u_nq (by omega), am_u_nq (by omega), am_u_nq (by omega), am_u_nq (by omega), am_u_nq (by omega), am_u_nq (by omega)]
                  exact x2 k hk
                · rw [am_u_nq (by omega), am_u_nq (by omega)]; exact x3
                · intro o' k e9
                  by_cases e7 : o' = 163 ∧ k = 7
                  · obtain ⟨rfl, rfl⟩ := e7
                    rw [am_u_same, am_u_nq (by omega), x4 _ _ (by omega), e3, h7, show ni (o + 1) - 1 = ni (o + 1 - 1) from ni_sub (b := 1) (by omega)]
                    rfl
                  · rw [am_u_nq (by omega), am_u_nq (by omega), x4 _ _ e9, e4 _ _ (by omega)]
        · rw [if_neg c2] at kk ⊢
          by_cases c3 : hz b n q = 35
          · rw [if_pos c3] at kk
            rw [if_pos c3]
            have et : mTake b n 35 q = .inr (q + 1) := by unfold mTake; rw [hqq, if_pos c3]
            refine sr_class (d := d + 3) hp hC.2.1 hR m5 (by rw [am_u_nq (by omega)]; exact hC.1) ?_
            unfold mCl
            rw [et]
            dsimp only [rb] at kk ⊢
            cases hm : mNum b n cc (q + 1) with
            | inl e =>
              rw [hm] at kk
              intro I' hF' hpl
              have hF0 := rFF.after hfr1 hF'
              refine am_back (v219_114 hp rfl ?_)
              refine ⟨by decide, by decide, by decide, kk _ (hF0.then ?_) hpl⟩
              exact ((rNF.rfl'.u (by simp [rSc]) (by omega)).u (by simp [rSc]) (by omega)).u (by simp [rSc]) (by omega)
            | inr z =>
              rw [hm] at kk
              have hl := mNum_lt hm
              intro hR9 hlt
              obtain ⟨g1, g2⟩ := hC.2.2 z.1 hlt
              have hc8 := hC.2.1
              have ei : (8 : Int32) + 3 * ni z.1 = ni (8 + 3 * z.1) := by
                rw [show (8 : Int32) = ni 8 from rfl, show (3 : Int32) = ni 3 from rfl, ni_mul, ni_add]
              refine am_back (v219_114 hp rfl ?_)
              rw [ei]
              refine ⟨ni_in (by omega) (by omega), ?_⟩
              rw [show ni (8 + 3 * z.1) + 1 = ni (8 + 3 * z.1 + 1) from by rw [ni_1, ni_add], show ni (8 + 3 * z.1) + 2 = ni (8 + 3 * z.1 + 2) from by rw [show (2 : Int32) = ni 2 from rfl, ni_add]]
              refine ⟨ni_in (by omega) (by omega), ni_in (by omega) (by omega), ?_⟩
              rw [ni_nat (by omega), ni_nat (by omega), ni_nat (by omega), am_u_u] at *
              have e166 : am_u I 163 4 (ni z.2) 166 = I 166 := am_u_o (by omega)
              refine kk _ ⟨?_, ⟨?_, ?_⟩, ?_⟩ (by dsimp only; omega)
              · obtain ⟨g1, g2, g3, g4, g6⟩ := hR9
                refine ⟨?_, ?_, ?_, g4, g6⟩
                · rw [am_u_o (by omega), am_u_o (by omega), am_u_o (by omega)]; exact g1
                · rw [am_u_nq (by omega), am_u_nq (by omega), am_u_nq (by omega)]; exact g2
                · rw [am_u_nq (by omega), am_u_nq (by omega), am_u_nq (by omega)]; exact g3
              · intro k hk
                rw [e166, am_u_nq (by omega), am_u_nq (by omega), am_u_same, am_u_nq (by omega), am_u_same, am_u_same]
                exact g1 k hk
              · rw [am_u_same, e166]; exact g2
              · intro o k e
                rw [am_u_nq (by omega), am_u_nq (by omega), am_u_nq (by omega), am_u_nq (by omega)]
          · rw [if_neg c3] at kk ⊢
            by_cases c4 : hz b n q = 91
            · rw [if_pos c4] at kk
              rw [if_pos c4]
              refine sr_rng (d := d + 3) hp hR m5 c4 ?_
              cases hm : mRng b n (n - q) (q + 1) (fun _ => false) with
              | inl e =>
                rw [hm] at kk
                intro I' hF' hpl
                exact am_back (v219_156 hp (kk _ (rFF.after hfr1 hF') hpl))
              | inr z =>
                rw [hm] at kk
                have hl := mRng_lt _ _ _ _ hm
                intro I' hX
                exact am_back (v219_156 hp (kk _ (rSX.after hX (fun o k e => hI1 o k (by omega))) (by omega)))
            · rw [if_neg c4] at kk ⊢
              rw [if_pos m5]
              have hq6 := hR.2.2.2.2
              exact kk _ (rFF.mark hfr1) (by omega)
end RR6
