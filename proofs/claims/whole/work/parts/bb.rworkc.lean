/-! WORK: the reference's whole call -/
section RWO
variable {b : Nat → Int32} {n : Nat} {Pf : am_R}
theorem stN_93 {a : Nat} (h : rsk b n a < n) (h93 : b (rsk b n a) = 93) : stN b (rsk b n a) (mNE b n a) = 0 := by
  have e : mNE b n a = rsk b n a := by
    unfold mNE
    obtain ⟨f, hf⟩ : ∃ f, n - rsk b n a = f + 1 := ⟨n - rsk b n a - 1, by omega⟩
    rw [hf]
    unfold ltF
    rw [if_neg (by rw [h93]; decide)]
  by_cases c : stN b (rsk b n a) (mNE b n a) = 0
  · exact c
  · have := stN_len c; omega
theorem sr_outer (hp : am_PF Pf) (hn : n ≤ 150) {D : Nat} (hD : 40 ≤ D) {P : am_O → Prop} {J : am_J} {l1 l3 l4 : Option Value} (hl1 : am_k1 l1 = true) : ∀ (G a u c : Nat) (I : am_I), n - a < G → RM I b n a → I 163 5 = -1 → I 163 7 = ni 0 → I 163 33 = ni (12 * u) → 3 * u ≤ a → 3 * c ≤ a →
  (match mOut b n G a c with
    | .inl f => ∀ I', rFF I I' f.1 f.2.1 → f.2.1 ≤ 600 → am_go none D 247 (101, [some (.ref 163), l1, some (.int (ni f.2.2)), l3, l4], [], (am_SH, I', J, Pf), 0, 0) P
    | .inr L => ∀ I' c', I' 163 5 = -1 → rSs u I I' → I' 163 33 = ni (12 * (u + szL (rsz 6) L)) → layL (rLa (I' 178) 6) (rsz 6) u L → (∀ y, y ∈ L → stOK 6 y) → u + szL (rsz 6) L ≤ 50 → am_go none D 247 (101, [some (.ref 163), l1, some (.int (ni c')), l3, l4], [], (am_SH, I', J, Pf), 0, 0) P) →
  am_go none D 247 (70, [some (.ref 163), l1, some (.int (ni c)), l3, l4], [], (am_SH, I, J, Pf), 0, 0) P := by
  obtain ⟨D', rfl⟩ : ∃ D', D = D' + 10 := ⟨D - 10, by omega⟩
  intro G
  induction G with
  | zero => intro a u c I hG; omega
  | succ G ih =>
    intro a u c I hG h h5 h7 h33 h3 h3c kk
    have ha := h.2.2.2.1
    have hn6 := h.2.2.2.2
    have hq := rsk_le (b := b) ha
    have hqq := rsk_rsk (b := b) ha
    unfold mOut at kk
    refine v247_70 hp ?_
    rw [if_pos h5]
    refine sr_more (d := D' + 8) hp h (fun R1 => am_back (v247_81 hp ?_))
    have f1 : rSs u I (am_u I 163 4 (ni (rsk b n a))) := rSs.at
    have f1' : ∀ o k, ¬ (o = 163 ∧ k = 4) → (am_u I 163 4 (ni (rsk b n a))) o k = I o k := fun o k e => am_u_nq e
    generalize am_u I 163 4 (ni (rsk b n a)) = I1 at R1 f1 f1' ⊢
    have p5 : I1 163 5 = -1 := by rw [f1' _ _ (by omega)]; exact h5
    have p7 : I1 163 7 = ni (6 - 6) := by rw [f1' _ _ (by omega)]; exact h7
    have p33 : I1 163 33 = ni (12 * u) := by rw [f1' _ _ (by omega)]; exact h33
    by_cases c1 : rsk b n a < n
    · rw [if_pos c1, if_neg (by decide)]
      refine rSTQ_all hp hn 6 (by omega) (D' + 10) _ I1 J (rsk b n a) u (by omega) R1 p5 p7 p33 (by omega) ?_
      have e9 : mSt9 b n 6 (rsk b n a) = mSt9 b n 6 a := by unfold mSt9; rw [mSt_rsk ha]
      rw [e9]
      -- behind a fault
      have BAD : ∀ (I' : am_I) (kd pl : Nat), rFF I1 I' kd pl → pl ≤ 600 → (∀ I', rFF I I' kd pl → pl ≤ 600 → am_go none (D' + 10) 247 (101, [some (.ref 163), l1, some (.int (ni c)), l3, l4], [], (am_SH, I', J, Pf), 0, 0) P) → am_go none (D' + 10) 247 (88, [some (.ref 163), l1, some (.int (ni c)), l3, l4], [], (am_SH, I', J, Pf), 0, 0) P := by
        intro I' kd pl q1 q2 kk
        have qb := q1.bad (by omega)
        refine v247_88 hp hl1 ?_
        rw [if_neg qb]
        refine v247_70 hp ?_
        rw [if_neg qb]
        exact kk I' (q1.after f1.fr) q2
      by_cases c93 : b (rsk b n a) = 93
      · rw [if_neg (fun z => z.2 c93), if_pos c1] at kk
        have hm : mSt b n 6 a = .inl (1, rsk b n a) := by unfold mSt; rw [if_pos (stN_93 c1 c93)]
        unfold mSt9
        rw [hm]
        exact fun I' q1 q2 => am_back (BAD I' 1 (rsk b n a) q1 q2 kk)
      · rw [if_pos ⟨c1, c93⟩] at kk
        unfold mSt9
        cases hm : mSt b n 6 a with
        | inl f =>
          rw [hm] at kk
          exact fun I' q1 q2 => am_back (BAD I' f.1 f.2 q1 q2 kk)
        | inr z =>
          rw [hm] at kk
          dsimp only [rb] at kk ⊢
          obtain ⟨o1, o2, o3⟩ := mSt_ok 6 a z ha hm
          cases ht : mTake b n 59 z.2 with
          | inl f =>
            rw [ht] at kk
            exact fun I' q1 q2 => am_back (BAD I' f.1 f.2 q1 q2 kk)
          | inr e =>
            rw [ht] at kk
            dsimp only at kk ⊢
            have t1 := mTake_lt ht
            intro I2 q1 q2 q3 q4
            have g2 : rSs u I I2 := f1.trans q2
            have hr := rsz_le 6 z.1
            have q5 : I2 163 5 = -1 := by rw [q2 _ _ (by omega) (by omega) (by omega)]; exact p5
            refine am_back (v247_88 hp hl1 ?_)
            rw [if_pos q5, ni_p1]
            refine ih e (u + rsz 6 z.1) (c + 1) I2 (by omega) q1 q5 (by rw [q2 _ _ (by omega) (by omega) (by omega)]; exact p7) q3 (by omega) (by omega) ?_
            cases hl : mOut b n G e (c + 1) with
            | inl f =>
              rw [hl] at kk
              exact fun I' m1 m2 => kk I' (m1.after g2.fr) m2
            | inr y =>
              rw [hl] at kk
              intro I' c' m2 m3 m4 m5 m6 m7
              have es : u + szL (rsz 6) (z.1 :: y) = u + rsz 6 z.1 + szL (rsz 6) y := by
                show u + (rsz 6 z.1 + szL (rsz 6) y) = _
                omega
              refine kk I' c' m2 (g2.trans (m3.up (by omega))) (by rw [es]; exact m4) ⟨rLa_ss o1 q4 m3 (Nat.le_refl _), m5⟩ (fun w hw => ?_) (by rw [es]; exact m7)
              rcases List.mem_cons.mp hw with e | e
              · rw [e]; exact o1
              · exact m6 w e
    · rw [if_neg (fun z => c1 z.1), if_neg c1] at kk
      rw [if_neg c1, if_pos rfl]
      exact kk I1 c p5 f1 p33 trivial (fun y hy => by cases hy) (by show u + 0 ≤ 50; omega)
/-- the state behind work that is done -/
def rWG (nw : Nat) (T : TX) (x : WX) (I I' : am_I) : Prop := I' 163 8 = -1 ∧ I' 163 10 = -1 ∧ I' 163 0 = 0 ∧ I' 163 2 = 0 ∧ rTx 180 I' x.1 ∧ (∀ k, k < 25 → I' 182 (25 * nw + k) = I 180 k) ∧ I' 163 34 = ni (nw + 1) ∧ I' 163 46 = 0 ∧ I' 163 35 = ni x.2.2.2 ∧ ∀ o k, ¬ rSc o k → ¬ (o = 163 ∧ (k = 0 ∨ k = 2 ∨ k = 3 ∨ k = 8 ∨ k = 10 ∨ k = 34 ∨ k = 35 ∨ k = 36 ∨ k = 37 ∨ k = 38 ∨ k = 46)) → o ≠ 179 → o ≠ 180 → ¬ (o = 182 ∧ 25 * nw ≤ k) → I' o k = I o k
def rWB (pl c : Int32) (I I' : am_I) : Prop := I' 163 8 = pl ∧ I' 163 10 = c ∧ I' 163 0 = 0 ∧ I' 163 2 = 0 ∧ ∀ o k, ¬ rSc o k → ¬ (o = 163 ∧ (k = 0 ∨ k = 2 ∨ k = 3 ∨ k = 8 ∨ k = 10)) → I' o k = I o k
theorem sr_workc (hp : am_PF Pf) {P : am_O → Prop} {J : am_J} {I : am_I} {tp nw : Nat} {T : TX} (hb : I 165 = b) (ht : I 163 2 = ni tp) (htp : tp ≤ 600) (hnt : n ≤ tp) (hn : n ≤ 150) (hw : I 163 34 = ni nw) (hw16 : nw ≤ 16) (hT : rTx 180 I T) (hTo : txOK T) {D : Nat} (hD : 60 ≤ D)
    (kf : nw = 16 → ∀ I', rWB (-1) (-1) I I' → P (.inl (some (.int (-20))), (am_SH, I', J, Pf), 0, 0))
    (kk : nw < 16 → match mWk b n with
      | .inl f => ∀ I', rWB (ni f.2.1) (ni f.2.2) I I' → f.2.1 ≤ 600 → P (.inl (some (.int (ni f.1 - 10))), (am_SH, I', J, Pf), 0, 0)
      | .inr L => ∀ I', rWG nw T (exL (exS 6) L (T, 0, 0, 0)) I I' → P (.inl (some (.int (ni (exL (exS 6) L (T, 0, 0, 0)).2.2.1))), (am_SH, I', J, Pf), 0, 0)) :
    am_mth D 247 [.ref 163, .int (ni n)] (am_SH, I, J, Pf) P := by
  obtain ⟨D', rfl⟩ : ∃ D', D = D' + 10 := ⟨D - 10, by omega⟩
  have h24 := hT.2.1
  refine am_mth_of rfl rfl (v247_0 hp ?_)
  rw [if_neg (ni_ge0 (by omega)), ht, if_neg (fun z => absurd ((ni_lt (by omega) (by omega)).mp z) (by omega)), if_neg (fun z => absurd ((glt 150 (by omega) (by omega)).mp z) (by omega)), hw]
  by_cases c16 : nw = 16
  · rw [if_pos ((leq 16 (by omega) (by omega)).mpr c16)]
    refine kf c16 _ ⟨am_u_same, ?_, ?_, ?_, fun o k e1 e2 => ?_⟩
    · rw [am_u_nq (by omega)]; exact am_u_same
    · simp [am_u]
    · simp [am_u]
    · have e' : ¬ (o = 163 ∧ (k = 4 ∨ k = 5 ∨ k = 7)) := fun z => e1 (by unfold rSc; omega)
      rw [am_u_nq (by omega), am_u_nq (by omega), am_u_nq (by omega), am_u_nq (by omega), am_u_nq (by omega), am_u_nq (by omega), am_u_nq (by omega), am_u_nq (by omega), am_u_nq (by omega)]
  rw [if_neg (fun z => c16 ((leq 16 (by omega) (by omega)).mp z))]
  have kk := kk (by omega)
  obtain ⟨S, eS⟩ : ∃ S, S = am_u (am_u (am_u (am_u (am_u (am_u (am_u (am_u (am_u I 163 0 0) 163 2 0) 163 8 (-1)) 163 3 (ni n)) 163 4 0) 163 5 (-1)) 163 7 0) 163 10 (-1)) 163 33 0 := ⟨_, rfl⟩
  rw [← eS]
  have sF : ∀ o k, ¬ (o = 163 ∧ (k = 0 ∨ k = 2 ∨ k = 3 ∨ k = 4 ∨ k = 5 ∨ k = 7 ∨ k = 8 ∨ k = 10 ∨ k = 33)) → S o k = I o k := fun o k e => by
    rw [eS, am_u_nq (by omega), am_u_nq (by omega), am_u_nq (by omega), am_u_nq (by omega), am_u_nq (by omega), am_u_nq (by omega), am_u_nq (by omega), am_u_nq (by omega), am_u_nq (by omega)]
  have s0 : S 163 0 = 0 := by rw [eS]; simp [am_u]
  have s2 : S 163 2 = 0 := by rw [eS]; simp [am_u]
  have s3 : S 163 3 = ni n := by rw [eS]; simp [am_u]
  have s4 : S 163 4 = ni 0 := by rw [eS]; simp [am_u]; rfl
  have s5 : S 163 5 = -1 := by rw [eS]; simp [am_u]
  have s7 : S 163 7 = ni 0 := by rw [eS]; simp [am_u]; rfl
  have s10 : S 163 10 = -1 := by rw [eS]; simp [am_u]
  have s33 : S 163 33 = ni 0 := by rw [eS]; simp [am_u]; rfl
  have sR : RM S b n 0 := ⟨by funext k; rw [sF _ _ (by omega), hb], s3, s4, Nat.zero_le _, by omega⟩
  have nR : ∀ {o k : Nat}, ¬ rSc o k → ¬ (o = 163 ∧ (k = 4 ∨ k = 5 ∨ k = 7 ∨ k = 14 ∨ k = 15 ∨ k = 16 ∨ k = 33)) ∧ o ≠ 168 ∧ o ≠ 178 := fun {o k} e => by
    unfold rSc at e
    omega
  unfold mWk at kk
  rw [show (0 : Int32) = ni 0 from rfl]
  refine sr_outer hp hn (D := D' + 9) (by omega) rfl (n + 1) 0 0 0 S (by omega) sR s5 s7 s33 (Nat.zero_le _) (Nat.zero_le _) ?_
  cases hm : mOut b n (n + 1) 0 0 with
  | inl f =>
    rw [hm] at kk
    dsimp only at kk
    intro I' q1 q2
    refine v247_101 hp ?_
    rw [if_neg (q1.bad (by omega)), q1.1, q1.2.1]
    have g : ∀ k, (k = 0 ∨ k = 2) → I' 163 k = S 163 k := fun k hk => q1.2.2 _ _ (by unfold rSc; omega)
    refine kk _ ⟨?_, am_u_same, ?_, ?_, fun o k e1 e2 => ?_⟩ q2
    · rw [am_u_nq (by omega)]; exact am_u_same
    · rw [am_u_nq (by omega), am_u_nq (by omega), g 0 (by omega)]; exact s0
    · rw [am_u_nq (by omega), am_u_nq (by omega), g 2 (by omega)]; exact s2
    · have := nR e1
      rw [am_u_nq (by omega), am_u_nq (by omega), q1.2.2 o k e1, sF o k (by omega)]
  | inr L =>
    rw [hm] at kk
    dsimp only at kk
    intro I1 c' q1 q2 q3 q4 q5 q6
    rw [Nat.zero_add] at q3 q6
    have hxok := exL_ok (f := exS 6) L (T, 0, 0, 0) (fun y x hy hx => exS_ok 6 y x (q5 y hy) hx) ⟨hTo, by show 0 ≤ 200; omega, Nat.le_refl _, Nat.le_refl _⟩
    generalize hx : exL (exS 6) L (T, 0, 0, 0) = x at kk hxok
    refine v247_101 hp ?_
    rw [if_pos q1, q3]
    refine sr_copies (d0 := D' + 8) (x := 178) (y := 179) (L := 600) (m := 600) hp rfl rfl (by omega) (by omega) (by omega) (by omega) (fun I2 f1 f2 => am_back (v247_138 hp rfl ?_))
    have g2 : ∀ o k, ¬ (o = 163 ∧ k = 8) → o ≠ 179 → I2 o k = I1 o k := fun o k e1 e2 => by rw [f2 _ _ (by omega), am_u_nq e1]
    have e8 : I2 163 8 = -1 := by rw [f2 _ _ (by omega), am_u_same]; exact q1
    have w2 : I2 163 34 = ni nw := by rw [g2 _ _ (by omega) (by omega), q2 _ _ (by omega) (by omega) (by omega), sF _ _ (by omega)]; exact hw
    have t2 : ∀ k, I2 180 k = I 180 k := fun k => by rw [g2 _ _ (by omega) (by omega), q2 _ _ (by omega) (by omega) (by omega), sF _ _ (by omega)]
    have lay2 : layL (rLa (I2 179) 6) (rsz 6) 0 L := layL_fr L 0 (fun y q hy e1 e2 hf => rLa_fr 6 y q (q5 y hy) (fun k j1 j2 => by rw [f1 k (by omega), am_u_nq (by omega)]) hf) q4
    have h33 : I2 163 33 = ni (12 * szL (rsz 6) L) := by rw [g2 _ _ (by omega) (by omega)]; exact q3
    -- the text is kept
    have LP : ∀ (y j : Nat) (I3 : am_I) (l2 l3 : Option Value), am_k1 l3 = true → 25 - j = y → j ≤ 25 → (∀ k, k < j → I3 182 (25 * nw + k) = I 180 k) → (∀ o k, ¬ (o = 182 ∧ 25 * nw ≤ k) → I3 o k = I2 o k) → am_go none (D' + 9) 247 (141, [some (.ref 163), some (.int (ni n)), l2, l3, some (.int (ni j))], [], (am_SH, I3, J, Pf), 0, 0) P := by
      intro y
      induction y with
      | zero =>
        intro j I3 l2 l3 hl3 hy hj a1 a2
        obtain rfl : j = 25 := by omega
        refine v247_141 hp hl3 ?_
        have w3 : I3 163 34 = ni nw := by rw [a2 _ _ (by omega)]; exact w2
        have h33' : I3 163 33 = ni (12 * (0 + szL (rsz 6) L)) := by rw [a2 _ _ (by omega), Nat.zero_add]; exact h33
        rw [if_pos (by decide), w3, ni_p1, h33', show (0 : Int32) = ni (12 * 0) from rfl]
        have M0 : qM (am_u (am_u (am_u (am_u I3 163 34 (ni (nw + 1))) 163 36 (ni (12 * 0))) 163 37 (ni (12 * 0))) 163 38 (ni (12 * 0))) (T, 0, 0, 0) := ⟨⟨by rw [am_u_nq (by omega), am_u_nq (by omega), am_u_nq (by omega), am_u_nq (by omega), a2 _ _ (by omega), t2]; exact hT.1, h24, fun i hi => by rw [am_u_nq (by omega), am_u_nq (by omega), am_u_nq (by omega), am_u_nq (by omega), a2 _ _ (by omega), t2]; exact hT.2.2 i hi⟩, by rw [am_u_nq (by omega), am_u_nq (by omega)]; exact am_u_same, by rw [am_u_nq (by omega)]; exact am_u_same, am_u_same⟩
        have F0 : ∀ o k, ¬ (o = 163 ∧ (k = 34 ∨ k = 36 ∨ k = 37 ∨ k = 38)) → (am_u (am_u (am_u (am_u I3 163 34 (ni (nw + 1))) 163 36 (ni (12 * 0))) 163 37 (ni (12 * 0))) 163 38 (ni (12 * 0))) o k = I3 o k := fun o k e => by rw [am_u_nq (by omega), am_u_nq (by omega), am_u_nq (by omega), am_u_nq (by omega)]
        have F34 : (am_u (am_u (am_u (am_u I3 163 34 (ni (nw + 1))) 163 36 (ni (12 * 0))) 163 37 (ni (12 * 0))) 163 38 (ni (12 * 0))) 163 34 = ni (nw + 1) := by rw [am_u_nq (by omega), am_u_nq (by omega), am_u_nq (by omega)]; exact am_u_same
        generalize am_u (am_u (am_u (am_u I3 163 34 (ni (nw + 1))) 163 36 (ni (12 * 0))) 163 37 (ni (12 * 0))) 163 38 (ni (12 * 0)) = I4 at M0 F0 F34 ⊢
        have lay4 : layL (rLa (I4 179) 6) (rsz 6) 0 L := by
          have : I4 179 = I2 179 := by funext k; rw [F0 _ _ (by omega), a2 _ _ (by omega)]
          rw [this]; exact lay2
        refine rMT_of (R := I4 179) hp (rSG_all hp 6) (D' + 9) _ J L 0 (T, 0, 0, 0) I4 (by omega) q5 lay4 rfl (by omega) ⟨hTo, by show 0 ≤ 200; omega, Nat.le_refl _, Nat.le_refl _⟩ M0 (fun I5 m1 m2 => am_back (v247_210 hp ?_))
        rw [hx] at m1
        have fin : ∀ o k, ¬ (o = 163 ∧ (k = 34 ∨ k = 36 ∨ k = 37 ∨ k = 38)) → o ≠ 180 → ¬ (o = 182 ∧ 25 * nw ≤ k) → I5 o k = I2 o k := fun o k e1 e2 e3 => by rw [m2 o k (by omega) e2, F0 o k e1, a2 o k e3]
        rw [m1.2.2.1, m1.2.2.2]
        refine kk _ ⟨?_, ?_, ?_, ?_, ⟨?_, m1.1.2.1, fun i hi => ?_⟩, fun k hk => ?_, ?_, ?_, am_u_same, fun o k e1 e2 e3 e4 e5 => ?_⟩
        · rw [am_u_nq (by omega), am_u_nq (by omega), fin _ _ (by omega) (by omega) (by omega)]; exact e8
        · rw [am_u_nq (by omega), am_u_nq (by omega), fin _ _ (by omega) (by omega) (by omega), g2 _ _ (by omega) (by omega), q2 _ _ (by omega) (by omega) (by omega)]; exact s10
        · rw [am_u_nq (by omega), am_u_nq (by omega), fin _ _ (by omega) (by omega) (by omega), g2 _ _ (by omega) (by omega), q2 _ _ (by omega) (by omega) (by omega)]; exact s0
        · rw [am_u_nq (by omega), am_u_nq (by omega), fin _ _ (by omega) (by omega) (by omega), g2 _ _ (by omega) (by omega), q2 _ _ (by omega) (by omega) (by omega)]; exact s2
        · rw [am_u_nq (by omega), am_u_nq (by omega)]; exact m1.1.1
        · rw [am_u_nq (by omega), am_u_nq (by omega)]; exact m1.1.2.2 i hi
        · rw [am_u_nq (by omega), am_u_nq (by omega), m2 _ _ (by omega) (by omega), F0 _ _ (by omega)]; exact a1 k hk
        · rw [am_u_nq (by omega), am_u_nq (by omega), m2 _ _ (by omega) (by omega)]; exact F34
        · rw [am_u_nq (by omega)]; exact am_u_same
        · have := nR e1
          rw [am_u_nq (by omega), am_u_nq (by omega), fin o k (by omega) e4 e5, g2 o k (by omega) e3, q2 o k (by omega) (by omega) (by omega), sF o k (by omega)]
      | succ y ih =>
        intro j I3 l2 l3 hl3 hy hj a1 a2
        refine v247_141 hp hl3 ?_
        have w3 : I3 163 34 = ni nw := by rw [a2 _ _ (by omega)]; exact w2
        rw [if_neg (fun z => absurd ((gle 25 (by omega) (by omega)).mp z) (by omega)), w3, show (25 : Int32) = ni 25 from rfl, ni_mul, ni_add, show (ni (25 * nw + j)).toNatClampNeg = 25 * nw + j from ni_nat (by omega), show (ni j).toNatClampNeg = j from ni_nat (by omega), ni_p1]
        refine ⟨ni_in (by omega) (by omega), ni_in (by omega) (by omega), ih (j + 1) _ _ _ hl3 (by omega) (by omega) (fun k hk => ?_) (fun o k e => by rw [am_u_nq (by omega)]; exact a2 o k e)⟩
        by_cases e : k = j
        · subst e
          rw [am_u_same, a2 _ _ (by omega), t2]
        · rw [am_u_nq (by omega)]
          exact a1 k (by omega)
    exact LP 25 0 I2 _ _ rfl rfl (Nat.zero_le _) (fun k hk => absurd hk (by omega)) (fun _ _ _ => rfl)
end RWO
