/-! The reference: productions, quotes, drops, clauses -/
section RG2
variable {d : Nat} {P : am_O → Prop} {J : am_J} {Pf : am_R} {n : Nat} {b : Nat → Int32}
theorem sr_sortN (hp : am_PF Pf) {I : am_I} {a : Nat} (h : RM I b n a) (h5 : I 163 5 = -1)
    (kk : rm2 (mNum b n 8 a) (fun z => RM (am_u I 163 4 (ni z.2)) b n z.2 → z.1 < 8 → P (.inl (some (.int (ni z.1))), (am_SH, am_u I 163 4 (ni z.2), J, Pf), 0, 0)) (fun kd pl => ∀ I', rFF I I' kd pl → pl ≤ 600 → P (.inl (some (.int 0)), (am_SH, I', J, Pf), 0, 0))) :
    am_mth (d + 3) 201 [.ref 163, .int 0, .int 7] (am_SH, I, J, Pf) P := by
  rw [show (7 : Int32) = ni 8 - ni 1 from by decide]
  exact sr_num hp (by omega) h h5 kk
theorem mPart_0 {cc : Nat} {w : Nat → Int32} {e q : Nat} {z : (Nat → Int32) × Nat} (he : 8 ≤ e) (h : mPart b n cc w e q = .inr z) : ∀ i, i < e → z.1 i = w i := by
  intro i hi
  unfold mPart at h
  split at h
  · cases hm : mCl b n cc q with
    | inl e => rw [hm] at h; cases h
    | inr y => rw [hm] at h; cases h; dsimp only; rw [fu_n (by omega), fu_n (by omega)]
  · split at h
    · cases hm : mNum b n 8 (q + 1) with
      | inl e => rw [hm] at h; cases h
      | inr y => rw [hm] at h; cases h; dsimp only; rw [fu_n (by omega), fu_n (by omega)]
    · cases hm : mShort b n q with
      | inl e => rw [hm] at h; cases h
      | inr y =>
        rw [hm] at h; cases h; dsimp only
        unfold wdW
        rw [if_neg (by omega), fu_n (by omega), fu_n (by omega)]
theorem mTake_le {x : Int32} {a z : Nat} (hx : x ≠ 0) (h : mTake b n x a = .inr z) : z ≤ n := by
  unfold mTake at h
  split at h
  · rename_i c
    cases h
    exact hz_0 c hx
  · cases h
theorem wdL_ge : ∀ (f a : Nat), a ≤ (wdL b n f a).2.1
  | 0, a => Nat.le_refl _
  | f + 1, a => by
    have g1 : a ≤ sgA b n a := by unfold sgA; split <;> omega
    unfold wdL
    split
    · split
      · have := wdL_ge f (sgA b n a + 1)
        show a ≤ (wdL b n f (sgA b n a + 1)).2.1
        omega
      · exact g1
    · exact Nat.le_refl _
theorem mWord_le {a : Nat} {x : List Int32 × Nat × Nat} (h : mWord b n a = .inr x) : x.2.1 < n ∧ a ≤ x.2.1 ∧ x.2.1 < x.2.2 ∧ x.2.2 < n := by
  unfold mWord at h
  cases hm : mTake b n 39 a with
  | inl e => rw [hm] at h; cases h
  | inr q =>
    rw [hm] at h
    dsimp only [rb] at h
    split at h
    · rename_i c
      cases h
      have h1 := mTake_le (by decide) hm
      have h2 := mTake_lt hm
      have h3 := wdL_ge (b := b) (n := n) (n - q) q
      refine ⟨?_, ?_, ?_, c.2.1⟩
      · show q - 1 < n; omega
      · show a ≤ q - 1; omega
      · show q - 1 < (wdL b n (n - q) q).2.1; omega
    · cases h
/-- the parts of a production -/
theorem rr_parts (hp : am_PF Pf) {cc p : Nat} (hp20 : p < 20) (hc8 : cc ≤ 8) {x3 : Nat} {l2 : Option Value} (hx : x3 = 32 + 3 * p) : ∀ (F : Nat) (I : am_I) (k a : Nat) (w : Nat → Int32), 6 ≤ F + k → k ≤ 4 → RM I b n a → I 163 5 = -1 → I 166 = w → w 0 = ni cc →
    rm2 (mParts b n cc p F w k a) (fun y => ∀ I', rGX I I' b n (fu y.1 (32 + 3 * p + 2) (ni y.2.1), y.2.2) → P (.inl none, (am_SH, I', J, Pf), 0, 0)) (fun kd pl => ∀ I', rFF I I' kd pl → pl ≤ 600 → P (.inl none, (am_SH, I', J, Pf), 0, 0)) →
    am_go none (d + 7) 225 (32, [some (.ref 163), some (.int (ni p)), l2, some (.int (ni x3)), some (.int (ni k))], [], (am_SH, I, J, Pf), 0, 0) P := by
  have fin : ∀ (I0 I : am_I) (k kd pl : Nat) (l1 : Option Value), k ≤ 6 → rFF I0 I kd pl → (∀ I', rFF I0 I' kd pl → P (.inl none, (am_SH, I', J, Pf), 0, 0)) → am_go none (d + 7) 225 (61, [some (.ref 163), l1, l2, some (.int (ni x3)), some (.int (ni k))], [], (am_SH, I, J, Pf), 0, 0) P := by
    intro I0 I k kd pl l1 hk hF kk
    refine v225_61 hp ?_
    rw [ni_p2]
    exact ⟨ni_in (by omega) (by omega), kk _ (hF.then (rNF.rfl'.u (by simp [rSc]) (by omega)))⟩
  intro F
  induction F with
  | zero => intro I k a w hF hk; omega
  | succ F ih =>
    intro I k a w hF hk h h5 hw hcc kk
    have hq := rsk_le (b := b) h.2.2.2.1
    have hqq := rsk_rsk (b := b) h.2.2.2.1
    unfold mParts at kk
    refine v225_32 hp ?_
    rw [if_pos h5]
    refine sr_here (d := d + 6) hp h (am_back (v225_43 hp ?_))
    generalize hqe : rsk b n a = q at *
    have hR := h.at hq.2
    have m5 : am_u I 163 4 (ni q) 163 5 = -1 := u_5 (by omega) h5
    have hfr : rFr I (am_u I 163 4 (ni q)) := rFr.rfl'.u (by simp [rSc])
    have hf4 : ∀ o k, o ≠ 166 → o ≠ 168 → ¬ (o = 163 ∧ (k = 4 ∨ (14 ≤ k ∧ k ≤ 19))) → am_u I 163 4 (ni q) o k = I o k := fun o k _ _ e => am_u_nq (by omega)
    have e166 : am_u I 163 4 (ni q) 166 = w := (am_u_o (by omega)).trans hw
    by_cases c : hz b n q = 59
    · rw [if_pos c] at kk
      rw [if_pos c]
      refine v225_61 hp ?_
      rw [ni_p2, ni_nat (by omega)]
      refine ⟨ni_in (by omega) (by omega), kk _ ⟨?_, ?_, ?_⟩⟩
      · rw [am_u_row, e166, hx]
      · exact hR.oth (fun o k e => am_u_nq (by omega))
      · intro o k e1 e2 e3
        rw [am_u_nq (by omega)]
        exact hf4 o k e1 e2 e3
    · rw [if_neg c] at kk ⊢
      refine sr_part (d := d) (w := w) hp hp20 hk hc8 hR m5 e166 hcc ?_
      rw [hqq]
      revert kk
      by_cases c3 : hz b n q = 35 ∨ hz b n q = 64 ∨ hz b n q = 39
      · rw [if_pos c3, if_pos c3]
        by_cases c4 : k = 4
        · rw [if_pos c4, if_pos c4]
          intro kk I' hF hpl
          refine am_back (v225_55 hp (v225_32 hp ?_))
          rw [if_neg (hF.bad (by omega)), ni_p1]
          exact fin I I' (k + 1) _ _ _ (by omega) (rFF.after hfr hF) (fun I'' hF => kk I'' hF hpl)
        · rw [if_neg c4, if_neg c4]
          cases hm : mPart b n cc w (eP p k) q with
          | inl e =>
            intro kk I' hF hpl
            refine am_back (v225_55 hp (v225_32 hp ?_))
            rw [if_neg (hF.bad (by omega)), ni_p1]
            exact fin I I' (k + 1) _ _ _ (by omega) (rFF.after hfr hF) (fun I'' hF => kk I'' hF hpl)
          | inr z =>
            intro kk I' hX
            dsimp only [rb] at kk
            refine am_back (v225_55 hp ?_)
            rw [ni_p1]
            have hX0 := rGX.after hX hf4
            refine ih I' (k + 1) z.2 z.1 (by omega) (by omega) hX.2.1 (by rw [hX.2.2 _ _ (by omega) (by omega) (by omega)]; exact m5) hX.1 ?_ ?_
            · rw [mPart_0 (by unfold eP; omega) hm 0 (by unfold eP; omega)]; exact hcc
            · revert kk
              cases mParts b n cc p F z.1 (k + 1) z.2 with
              | inl e => exact fun kk I'' hF hpl => kk I'' (rFF.after hX0.fr hF) hpl
              | inr y => exact fun kk I'' hY => kk I'' (rGX.after hY hX0.2.2)
      · rw [if_neg c3, if_neg c3]
        intro kk I' hF hpl
        refine am_back (v225_55 hp (v225_32 hp ?_))
        rw [if_neg (hF.bad (by omega)), ni_p1]
        exact fin I I' (k + 1) _ _ _ (by omega) (rFF.after hfr hF) (fun I'' hF => kk I'' hF hpl)
variable {I : am_I} {a : Nat}
theorem sr_prod (hp : am_PF Pf) {cc p : Nat} {rule : Int32} {w : Nat → Int32} (hp20 : p < 20) (hc8 : cc ≤ 8) (h : RM I b n a) (h5 : I 163 5 = -1) (hw : I 166 = w) (hcc : w 0 = ni cc)
    (kk : rm2 (mProd b n cc w p rule a) (fun z => ∀ I', rGX I I' b n z → P (.inl none, (am_SH, I', J, Pf), 0, 0)) (fun kd pl => ∀ I', rFF I I' kd pl → pl ≤ 600 → P (.inl none, (am_SH, I', J, Pf), 0, 0))) :
    am_mth (d + 8) 225 [.ref 163, .int (ni p), .int rule] (am_SH, I, J, Pf) P := by
  unfold mProd at kk
  have ei : (32 : Int32) + 3 * ni p = ni (32 + 3 * p) := by rw [show (3 : Int32) = ni 3 from rfl, show (32 : Int32) = ni 32 from rfl, ni_mul, ni_add]
  refine am_mth_of rfl rfl (v225_0 hp ?_)
  rw [ei]
  refine sr_sortN (d := d + 4) hp h h5 ?_
  cases hm : mNum b n 8 a with
  | inl e =>
    rw [hm] at kk
    intro I' hF hpl
    refine am_back (v225_19 hp ?_)
    rw [ni_p1]
    refine ⟨ni_in (by omega) (by omega), ni_in (by omega) (by omega), v225_32 hp ?_⟩
    have hF2 : rFF I (am_u (am_u I' 166 (ni (32 + 3 * p)).toNatClampNeg 0) 166 (ni (32 + 3 * p + 1)).toNatClampNeg rule) e.1 e.2 := hF.then ((rNF.rfl'.u (by simp [rSc]) (by omega)).u (by simp [rSc]) (by omega))
    rw [if_neg (hF2.bad (by omega))]
    refine v225_61 hp ?_
    rw [ni_p2]
    exact ⟨ni_in (by omega) (by omega), kk _ (hF2.then (rNF.rfl'.u (by simp [rSc]) (by omega))) hpl⟩
  | inr z =>
    rw [hm] at kk
    dsimp only [rb] at kk
    intro hR hlt
    refine am_back (v225_19 hp ?_)
    rw [ni_p1, ni_nat (by omega), ni_nat (by omega)]
    refine ⟨ni_in (by omega) (by omega), ni_in (by omega) (by omega), ?_⟩
    have hf : ∀ o k, o ≠ 166 → o ≠ 168 → ¬ (o = 163 ∧ (k = 4 ∨ (14 ≤ k ∧ k ≤ 19))) → am_u (am_u (am_u I 163 4 (ni z.2)) 166 (32 + 3 * p) (ni z.1)) 166 (32 + 3 * p + 1) rule o k = I o k := fun o k e1 e2 e3 => by rw [am_u_nq (by omega), am_u_nq (by omega), am_u_nq (by omega)]
    have hfr : rFr I (am_u (am_u (am_u I 163 4 (ni z.2)) 166 (32 + 3 * p) (ni z.1)) 166 (32 + 3 * p + 1) rule) := ((rFr.rfl'.u (by simp [rSc])).u (by simp [rSc])).u (by simp [rSc])
    refine rr_parts (d := d) (x3 := 32 + 3 * p) hp hp20 hc8 rfl 6 _ 0 z.2 (fu (fu w (32 + 3 * p) (ni z.1)) (32 + 3 * p + 1) rule) (by omega) (by omega) (hR.oth (fun o k e => by rw [am_u_nq (by omega), am_u_nq (by omega)])) ?_ ?_ ?_ ?_
    · rw [hf _ _ (by omega) (by omega) (by omega)]; exact h5
    · rw [am_u_row, am_u_row, am_u_o (by omega), hw]
    · rw [fu_n (by omega), fu_n (by omega)]; exact hcc
    · revert kk
      cases mParts b n cc p 6 (fu (fu w (32 + 3 * p) (ni z.1)) (32 + 3 * p + 1) rule) 0 z.2 with
      | inl e => exact fun kk I'' hF hpl => kk I'' (rFF.after hfr hF) hpl
      | inr y => exact fun kk I'' hY => kk I'' (rGX.after hY hf)
/-- three signs laid -/
theorem rr_q3 (hp : am_PF Pf) {k : Nat} (hk : k < 4) {l1 : Option Value} (I : am_I) (kk : P (.inl none, (am_SH, am_u (am_u (am_u I 166 (972 + 5 * k + 2) (I 168 0)) 166 (972 + 5 * k + 3) (I 168 1)) 166 (972 + 5 * k + 4) (I 168 2), J, Pf), 0, 0)) : am_go none (d + 1) 226 (112, [some (.ref 163), l1, some (.int (ni (972 + 5 * k))), some (.int 0)], [], (am_SH, I, J, Pf), 0, 0) P := by
  have st : ∀ (I : am_I) (i : Nat), i < 3 → am_go none (d + 1) 226 (112, [some (.ref 163), l1, some (.int (ni (972 + 5 * k))), some (.int (ni (i + 1)))], [], (am_SH, am_u I 166 (972 + 5 * k + 2 + i) (I 168 i), J, Pf), 0, 0) P → am_go none (d + 1) 226 (112, [some (.ref 163), l1, some (.int (ni (972 + 5 * k))), some (.int (ni i))], [], (am_SH, I, J, Pf), 0, 0) P := by
    intro I i hi kk
    refine v226_112 hp ?_
    rw [if_neg (fun z => absurd ((gle 3 (by omega) (by omega)).mp z) (by omega)), ni_p2, ni_add, ni_p1, ni_nat (by omega), ni_nat (by omega)]
    exact ⟨ni_in (by omega) (by omega), ni_in (by omega) (by omega), kk⟩
  refine st I 0 (by omega) (st _ 1 (by omega) (st _ 2 (by omega) ?_))
  refine v226_112 hp ?_
  rw [if_pos (by decide), am_u_nq (by omega), am_u_nq (by omega), am_u_nq (by omega)]
  exact kk
theorem sr_quote (hp : am_PF Pf) {k : Nat} {w : Nat → Int32} (hk : k < 4) (h : RM I b n a) (h5 : I 163 5 = -1) (hw : I 166 = w)
    (kk : rm2 (mQuote b n w k a) (fun z => ∀ I', rGX I I' b n z → P (.inl none, (am_SH, I', J, Pf), 0, 0)) (fun kd pl => ∀ I', rFF I I' kd pl → pl ≤ 600 → P (.inl none, (am_SH, I', J, Pf), 0, 0))) :
    am_mth (d + 7) 226 [.ref 163, .int (ni k)] (am_SH, I, J, Pf) P := by
  unfold mQuote at kk
  have ei : (972 : Int32) + 5 * ni k = ni (972 + 5 * k) := by rw [show (5 : Int32) = ni 5 from rfl, show (972 : Int32) = ni 972 from rfl, ni_mul, ni_add]
  -- behind a fault
  have bad : ∀ (I1 : am_I) (e : Nat × Nat) (l1 l3 : Option Value), rFF I I1 e.1 e.2 → e.2 ≤ 600 → (∀ I', rFF I I' e.1 e.2 → e.2 ≤ 600 → P (.inl none, (am_SH, I', J, Pf), 0, 0)) → am_go none (d + 6) 226 (110, [some (.ref 163), l1, some (.int (ni (972 + 5 * k))), l3], [], (am_SH, I1, J, Pf), 0, 0) P := by
    intro I1 e l1 l3 hF hpl kk
    refine v226_110 hp (rr_q3 (d := d + 5) hp hk I1 (kk _ (hF.then ?_) hpl))
    exact ((rNF.rfl'.u (by simp [rSc]) (by omega)).u (by simp [rSc]) (by omega)).u (by simp [rSc]) (by omega)
  have bad40 : ∀ (I1 : am_I) (e : Nat × Nat) (l1 l3 : Option Value), rFF I I1 e.1 e.2 → e.2 ≤ 600 → (∀ I', rFF I I' e.1 e.2 → e.2 ≤ 600 → P (.inl none, (am_SH, I', J, Pf), 0, 0)) → am_go none (d + 6) 226 (40, [some (.ref 163), l1, some (.int (ni (972 + 5 * k))), l3], [], (am_SH, I1, J, Pf), 0, 0) P := by
    intro I1 e l1 l3 hF hpl kk
    refine v226_40 hp ?_
    rw [if_neg (hF.bad (by omega))]
    refine v226_64 hp ?_
    rw [if_neg (hF.bad (by omega))]
    exact bad I1 e _ _ hF hpl kk
  refine am_mth_of rfl rfl (v226_0 hp ?_)
  rw [ei]
  refine sr_sortN (d := d + 3) hp h h5 ?_
  cases hm : mNum b n 8 a with
  | inl e =>
    rw [hm] at kk
    intro I' hF hpl
    refine am_back (v226_20 hp ⟨ni_in (by omega) (by omega), ?_⟩)
    have hF2 : rFF I (am_u I' 166 (ni (972 + 5 * k)).toNatClampNeg 0) e.1 e.2 := hF.then (rNF.rfl'.u (by simp [rSc]) (by omega))
    refine sr_num_nf (d := d + 3) hp (hF2.bad (by omega)) (am_back (v226_35 hp ?_))
    rw [ni_p1]
    refine ⟨ni_in (by omega) (by omega), ?_⟩
    have hF3 := hF2.then (rNF.rfl'.u (I := am_u I' 166 (ni (972 + 5 * k)).toNatClampNeg 0) (o := 166) (k := (ni (972 + 5 * k + 1)).toNatClampNeg) (v := 0) (by simp [rSc]) (by omega))
    refine sr_word_nf (d := d + 2) hp (hF3.bad (by omega)) (fun I'' hN => am_back ?_)
    exact bad40 I'' e _ _ (hF3.then hN) hpl kk
  | inr z =>
    rw [hm] at kk
    dsimp only [rb] at kk
    intro hR hlt
    refine am_back (v226_20 hp ⟨ni_in (by omega) (by omega), ?_⟩)
    rw [ni_nat (by omega)]
    have hR2 : RM (am_u (am_u I 163 4 (ni z.2)) 166 (972 + 5 * k) (ni z.1)) b n z.2 := hR.oth (fun o k e => am_u_nq (by omega))
    refine sr_sortN (d := d + 3) hp hR2 (u_5 (by omega) (u_5 (by omega) h5)) ?_
    cases hm2 : mNum b n 8 z.2 with
    | inl e =>
      rw [hm2] at kk
      intro I' hF hpl
      have hF2 : rFF I I' e.1 e.2 := rFF.after ((rFr.rfl'.u (by simp [rSc])).u (by simp [rSc])) hF
      refine am_back (v226_35 hp ?_)
      rw [ni_p1]
      refine ⟨ni_in (by omega) (by omega), ?_⟩
      have hF3 := hF2.then (rNF.rfl'.u (I := I') (o := 166) (k := (ni (972 + 5 * k + 1)).toNatClampNeg) (v := 0) (by simp [rSc]) (by omega))
      refine sr_word_nf (d := d + 2) hp (hF3.bad (by omega)) (fun I'' hN => am_back ?_)
      exact bad40 I'' e _ _ (hF3.then hN) hpl kk
    | inr y =>
      rw [hm2] at kk
      dsimp only [rb] at kk
      intro hR3 hlt2
      refine am_back (v226_35 hp ?_)
      rw [ni_p1, ni_nat (by omega)]
      refine ⟨ni_in (by omega) (by omega), ?_⟩
      -- the state ahead of the word
      have hfI : ∀ o k', o ≠ 166 → o ≠ 168 → ¬ (o = 163 ∧ (k' = 4 ∨ (14 ≤ k' ∧ k' ≤ 19))) → am_u (am_u (am_u (am_u I 163 4 (ni z.2)) 166 (972 + 5 * k) (ni z.1)) 163 4 (ni y.2)) 166 (972 + 5 * k + 1) (ni y.1) o k' = I o k' := fun o k' e1 e2 e3 => by rw [am_u_nq (by omega), am_u_nq (by omega), am_u_nq (by omega), am_u_nq (by omega)]
      have hwI : am_u (am_u (am_u (am_u I 163 4 (ni z.2)) 166 (972 + 5 * k) (ni z.1)) 163 4 (ni y.2)) 166 (972 + 5 * k + 1) (ni y.1) 166 = fu (fu w (972 + 5 * k) (ni z.1)) (972 + 5 * k + 1) (ni y.1) := by rw [am_u_row, am_u_o (by omega), am_u_row, am_u_o (by omega), hw]
      have hRI : RM (am_u (am_u (am_u (am_u I 163 4 (ni z.2)) 166 (972 + 5 * k) (ni z.1)) 163 4 (ni y.2)) 166 (972 + 5 * k + 1) (ni y.1)) b n y.2 := hR3.oth (fun o k e => am_u_nq (by omega))
      have hrI : rFr I (am_u (am_u (am_u (am_u I 163 4 (ni z.2)) 166 (972 + 5 * k) (ni z.1)) 163 4 (ni y.2)) 166 (972 + 5 * k + 1) (ni y.1)) := (((rFr.rfl'.u (by simp [rSc])).u (by simp [rSc])).u (by simp [rSc])).u (by simp [rSc])
      generalize am_u (am_u (am_u (am_u I 163 4 (ni z.2)) 166 (972 + 5 * k) (ni z.1)) 163 4 (ni y.2)) 166 (972 + 5 * k + 1) (ni y.1) = I2 at *
      have m5 : I2 163 5 = -1 := by rw [hfI _ _ (by omega) (by omega) (by omega)]; exact h5
      refine sr_word (d := d + 2) hp hRI m5 ?_
      cases hm3 : mWord b n y.2 with
      | inl e =>
        rw [hm3] at kk
        intro I' hF hpl
        exact am_back (bad40 I' e _ _ (rFF.after hrI hF) hpl kk)
      | inr x =>
        rw [hm3] at kk
        dsimp only at kk
        intro I' hW
        have hWf := hW.fr
        obtain ⟨g1, g2, g3, g4, g5, g6, g7, g8, g9, g10⟩ := hW
        have hn6 := g1.2.2.2.2
        refine am_back (v226_40 hp ?_)
        rw [if_pos g2, g3]
        have l3 : (ni x.1.length = 3) ↔ x.1.length = 3 := leq 3 (by omega) (by omega)
        by_cases c3 : x.1.length = 3
        · rw [if_pos c3] at kk
          rw [if_pos (l3.mpr c3)]
          refine v226_64 hp ?_
          rw [if_pos g2, g6 0 (by omega), g6 1 (by omega), g6 2 (by omega)]
          have dup : (x.1.getD 2 0 = x.1.getD 0 0 ∨ x.1.getD 2 0 = x.1.getD 1 0) → am_go none (d + 6) 226 (101, [some (.ref 163), some (.int (ni k)), some (.int (ni (972 + 5 * k))), none], [], (am_SH, I', J, Pf), 0, 0) P := by
            intro hc
            rw [if_pos hc] at kk
            refine v226_101 hp ?_
            rw [if_pos g2, g4]
            have hx := mWord_le hm3
            exact bad _ (2, x.2.1) _ _ (rFF.mark (hrI.trans hWf)) (by show x.2.1 ≤ 600; omega) kk
          by_cases d1 : x.1.getD 2 0 = x.1.getD 0 0
          · rw [if_pos d1]; exact dup (Or.inl d1)
          · by_cases d2 : x.1.getD 2 0 = x.1.getD 1 0
            · rw [if_neg d1, if_pos d2]; exact dup (Or.inr d2)
            · rw [if_neg d1, if_neg d2]
              rw [if_neg (by rintro (z | z); exact d1 z; exact d2 z)] at kk
              refine v226_110 hp (rr_q3 (d := d + 5) hp hk I' (kk _ ⟨?_, ?_, ?_⟩))
              · have e166 : I' 166 = fu (fu w (972 + 5 * k) (ni z.1)) (972 + 5 * k + 1) (ni y.1) := by rw [← hwI]; funext i; exact g10 _ _ (by omega) (by omega)
                rw [am_u_row, am_u_row, am_u_row, e166, g6 0 (by omega), g6 1 (by omega), g6 2 (by omega)]
              · exact g1.oth (fun o k e => by rw [am_u_nq (by omega), am_u_nq (by omega), am_u_nq (by omega)])
              · intro o k' e1 e2 e3
                rw [am_u_nq (by omega), am_u_nq (by omega), am_u_nq (by omega), g10 o k' e2 (by omega)]
                exact hfI o k' e1 e2 e3
        · rw [if_neg c3] at kk
          rw [if_neg (fun z => c3 (l3.mp z)), g5]
          have hF : rFF I (am_u (am_u I' 163 5 (ni x.2.2)) 163 6 2) 2 x.2.2 := rFF.mark (hrI.trans hWf)
          refine v226_64 hp ?_
          rw [if_neg (hF.bad (by omega))]
          exact bad _ (2, x.2.2) _ _ hF (by show x.2.2 ≤ 600; omega) kk
end RG2
