/-! Rows stay well formed; the reference's loop over the clauses -/
section WGT
variable {b : Nat → Int32} {n : Nat}
theorem WG.body {w : Nat → Int32} {kd pl c a : Nat} {z : (Nat → Int32) × Nat} (h : WG w) (h1 : 1 ≤ kd) (h7 : kd ≤ 7) (hfull : kd ≠ 7 → wN w (kdC kd) < kdM kd) (hpl : pl ≤ 600) (hc : c ≤ 60) (hm : mBody b n w kd pl c a = .inr z) : WG (kdUp z.1 kd) := by
  obtain ⟨hC, hP, hQ, hN, hD, hL⟩ := h
  have hC' := hC
  obtain ⟨⟨w0, w0'⟩, ⟨w1, w1'⟩, ⟨w2, w2'⟩, ⟨w3, w3'⟩, ⟨w4, w4'⟩, wk⟩ := hC'
  unfold mBody at hm
  have hkd : kd = 1 ∨ kd = 2 ∨ kd = 3 ∨ kd = 4 ∨ kd = 5 ∨ kd = 6 ∨ kd = 7 := by omega
  have prd : ∀ (rule : Int32) (z : (Nat → Int32) × Nat), (rule = 0 ∨ rule = 1) → wN w 1 < 20 → mProd b n (wN w 0) w (wN w 1) rule a = .inr z → WG (fu z.1 1 (ni (wN z.1 1 + 1))) := by
    intro rule z hr hf0 hm
    obtain ⟨g1, g2⟩ := mProd_ok hr hf0 hm
    have cw : ∀ i, i < 32 → z.1 i = w i := fun i hi => g2 i (by omega)
    have hC2 := hC.of (w' := z.1) (fun i hi => cw i (by omega)) (fun c hc => cw _ (by omega))
    have en : ∀ i, i < 32 → wN z.1 i = wN w i := fun i hi => by unfold wN; rw [cw i hi]
    obtain ⟨u1, u2, u3⟩ := hC2.up (k := 1) (by omega) (by rw [en 1 (by omega)]; exact hf0) (fun z => absurd z (by omega))
    have e0 := (u2 0 (by omega)).trans (en 0 (by omega))
    refine ⟨u1, fun p hp => ?_, fun q hq => ?_, fun j hj => ?_, fun d hd => ?_, ?_⟩
    · rw [u3, en 1 (by omega)] at hp
      rw [e0]
      by_cases c1 : p < wN w 1
      · exact (hP p c1).of (Nat.le_refl _) (fun i hi => by rw [fu_n (by omega), g2 _ (by omega)]) (fun i hi => by rw [fu_n (by omega), g2 _ (by omega)])
      · have : p = wN w 1 := by omega
        subst this
        exact g1.of (Nat.le_refl _) (fun i hi => by rw [fu_n (by omega)]) (fun i hi => by rw [fu_n (by omega)])
    · rw [u2 2 (by omega), en 2 (by omega)] at hq
      exact (hQ q hq).of (fun i hi => by rw [fu_n (by omega), g2 _ (by omega)])
    · rw [u2 3 (by omega), en 3 (by omega)] at hj
      rw [e0]
      exact (hN j hj).of (Nat.le_refl _) (fun i hi => by rw [fu_n (by omega), g2 _ (by omega)])
    · rw [u2 4 (by omega), en 4 (by omega)] at hd
      exact (hD d hd).of (fun i hi => by rw [fu_n (by omega), g2 _ (by omega)])
    · rw [e0]
      unfold laOK at *
      rw [fu_n (by omega), cw 5 (by omega)]
      exact hL
  rcases hkd with rfl | rfl | rfl | rfl | rfl | rfl | rfl
  · have hf0 := hfull (by decide)
    change wN w 0 < 8 at hf0
    rw [if_pos rfl] at hm
    obtain ⟨g1, g2⟩ := mSet_ok hm
    have cw : ∀ i, i < 8 → z.1 i = w i := fun i hi => g2 i (by omega)
    have hC2 := hC.of (w' := z.1) (fun i hi => cw i (by omega)) (fun c hc => g2 _ (by omega))
    have en : ∀ i, i < 8 → wN z.1 i = wN w i := fun i hi => by unfold wN; rw [cw i hi]
    obtain ⟨u1, u2, u3⟩ := hC2.up (k := 0) (by omega) (by rw [en 0 (by omega)]; exact hf0) (fun _ => by rw [en 0 (by omega)]; exact g1)
    show WG (fu z.1 0 (ni (wN z.1 0 + 1)))
    rw [en 0 (by omega)] at u3
    refine ⟨u1, fun p hp => ?_, fun q hq => ?_, fun j hj => ?_, fun d hd => ?_, ?_⟩
    · rw [u2 1 (by omega), en 1 (by omega)] at hp
      rw [en 0 (by omega)] at *
      rw [u3]
      exact (hP p hp).of (by omega) (fun i hi => by rw [fu_n (by omega), g2 _ (by omega)]) (fun i hi => by rw [fu_n (by omega), g2 _ (by omega)])
    · rw [u2 2 (by omega), en 2 (by omega)] at hq
      exact (hQ q hq).of (fun i hi => by rw [fu_n (by omega), g2 _ (by omega)])
    · rw [u2 3 (by omega), en 3 (by omega)] at hj
      rw [en 0 (by omega)] at *
      rw [u3]
      exact (hN j hj).of (by omega) (fun i hi => by rw [fu_n (by omega), g2 _ (by omega)])
    · rw [u2 4 (by omega), en 4 (by omega)] at hd
      exact (hD d hd).of (fun i hi => by rw [fu_n (by omega), g2 _ (by omega)])
    · rw [en 0 (by omega)] at *
      rw [u3]
      unfold laOK at *
      rw [fu_n (by omega), cw 5 (by omega)]
      rcases hL with hL | ⟨k, hk, e⟩
      · exact Or.inl hL
      · exact Or.inr ⟨k, by omega, e⟩
  · rw [if_neg (by decide), if_pos rfl] at hm
    exact prd 1 z (Or.inr rfl) (hfull (by decide)) hm
  · rw [if_neg (by decide), if_neg (by decide), if_pos rfl] at hm
    exact prd 0 z (Or.inl rfl) (hfull (by decide)) hm
  · have hf0 := hfull (by decide)
    change wN w 2 < 4 at hf0
    rw [if_neg (by decide), if_neg (by decide), if_neg (by decide), if_pos rfl] at hm
    obtain ⟨g1, g2⟩ := mQuote_ok hm
    have cw : ∀ i, i < 972 → z.1 i = w i := fun i hi => g2 i (by omega)
    have hC2 := hC.of (w' := z.1) (fun i hi => cw i (by omega)) (fun c hc => cw _ (by omega))
    have en : ∀ i, i < 32 → wN z.1 i = wN w i := fun i hi => by unfold wN; rw [cw i (by omega)]
    obtain ⟨u1, u2, u3⟩ := hC2.up (k := 2) (by omega) (by rw [en 2 (by omega)]; exact hf0) (fun z => absurd z (by omega))
    have e0 := (u2 0 (by omega)).trans (en 0 (by omega))
    show WG (fu z.1 2 (ni (wN z.1 2 + 1)))
    refine ⟨u1, fun p hp => ?_, fun q hq => ?_, fun j hj => ?_, fun d hd => ?_, ?_⟩
    · rw [u2 1 (by omega), en 1 (by omega)] at hp
      rw [e0]
      exact (hP p hp).of (Nat.le_refl _) (fun i hi => by rw [fu_n (by omega), cw _ (by omega)]) (fun i hi => by rw [fu_n (by omega), cw _ (by omega)])
    · rw [u3, en 2 (by omega)] at hq
      by_cases c1 : q < wN w 2
      · exact (hQ q c1).of (fun i hi => by rw [fu_n (by omega), g2 _ (by omega)])
      · have : q = wN w 2 := by omega
        subst this
        exact g1.of (fun i hi => by rw [fu_n (by omega)])
    · rw [u2 3 (by omega), en 3 (by omega)] at hj
      rw [e0]
      exact (hN j hj).of (Nat.le_refl _) (fun i hi => by rw [fu_n (by omega), g2 _ (by omega)])
    · rw [u2 4 (by omega), en 4 (by omega)] at hd
      exact (hD d hd).of (fun i hi => by rw [fu_n (by omega), g2 _ (by omega)])
    · rw [e0]
      unfold laOK at *
      rw [fu_n (by omega), cw 5 (by omega)]
      exact hL
  · have hf0 := hfull (by decide)
    change wN w 3 < 8 at hf0
    rw [if_neg (by decide), if_neg (by decide), if_neg (by decide), if_neg (by decide), if_pos rfl] at hm
    obtain ⟨g1, g2⟩ := mNot_ok hm
    have cw : ∀ i, i < 992 → z.1 i = w i := fun i hi => g2 i (by omega)
    have hC2 := hC.of (w' := z.1) (fun i hi => cw i (by omega)) (fun c hc => cw _ (by omega))
    have en : ∀ i, i < 32 → wN z.1 i = wN w i := fun i hi => by unfold wN; rw [cw i (by omega)]
    obtain ⟨u1, u2, u3⟩ := hC2.up (k := 3) (by omega) (by rw [en 3 (by omega)]; exact hf0) (fun z => absurd z (by omega))
    have e0 := (u2 0 (by omega)).trans (en 0 (by omega))
    show WG (fu z.1 3 (ni (wN z.1 3 + 1)))
    refine ⟨u1, fun p hp => ?_, fun q hq => ?_, fun j hj => ?_, fun d hd => ?_, ?_⟩
    · rw [u2 1 (by omega), en 1 (by omega)] at hp
      rw [e0]
      exact (hP p hp).of (Nat.le_refl _) (fun i hi => by rw [fu_n (by omega), cw _ (by omega)]) (fun i hi => by rw [fu_n (by omega), cw _ (by omega)])
    · rw [u2 2 (by omega), en 2 (by omega)] at hq
      exact (hQ q hq).of (fun i hi => by rw [fu_n (by omega), g2 _ (by omega)])
    · rw [u3, en 3 (by omega)] at hj
      rw [e0]
      by_cases c1 : j < wN w 3
      · exact (hN j c1).of (Nat.le_refl _) (fun i hi => by rw [fu_n (by omega), g2 _ (by omega)])
      · have : j = wN w 3 := by omega
        subst this
        exact g1.of (Nat.le_refl _) (fun i hi => by rw [fu_n (by omega)])
    · rw [u2 4 (by omega), en 4 (by omega)] at hd
      exact (hD d hd).of (fun i hi => by rw [fu_n (by omega), g2 _ (by omega)])
    · rw [e0]
      unfold laOK at *
      rw [fu_n (by omega), cw 5 (by omega)]
      exact hL
  · have hf0 := hfull (by decide)
    change wN w 4 < 8 at hf0
    rw [if_neg (by decide), if_neg (by decide), if_neg (by decide), if_neg (by decide), if_neg (by decide), if_pos rfl] at hm
    obtain ⟨g1, g2⟩ := mDrop_ok hpl hc hm
    have cw : ∀ i, i < 1008 → z.1 i = w i := fun i hi => g2 i (by omega)
    have hC2 := hC.of (w' := z.1) (fun i hi => cw i (by omega)) (fun c hc => cw _ (by omega))
    have en : ∀ i, i < 32 → wN z.1 i = wN w i := fun i hi => by unfold wN; rw [cw i (by omega)]
    obtain ⟨u1, u2, u3⟩ := hC2.up (k := 4) (by omega) (by rw [en 4 (by omega)]; exact hf0) (fun z => absurd z (by omega))
    have e0 := (u2 0 (by omega)).trans (en 0 (by omega))
    show WG (fu z.1 4 (ni (wN z.1 4 + 1)))
    refine ⟨u1, fun p hp => ?_, fun q hq => ?_, fun j hj => ?_, fun d hd => ?_, ?_⟩
    · rw [u2 1 (by omega), en 1 (by omega)] at hp
      rw [e0]
      exact (hP p hp).of (Nat.le_refl _) (fun i hi => by rw [fu_n (by omega), cw _ (by omega)]) (fun i hi => by rw [fu_n (by omega), cw _ (by omega)])
    · rw [u2 2 (by omega), en 2 (by omega)] at hq
      exact (hQ q hq).of (fun i hi => by rw [fu_n (by omega), cw _ (by omega)])
    · rw [u2 3 (by omega), en 3 (by omega)] at hj
      rw [e0]
      exact (hN j hj).of (Nat.le_refl _) (fun i hi => by rw [fu_n (by omega), cw _ (by omega)])
    · rw [u3, en 4 (by omega)] at hd
      by_cases c1 : d < wN w 4
      · exact (hD d c1).of (fun i hi => by rw [fu_n (by omega), g2 _ (by omega)])
      · have : d = wN w 4 := by omega
        subst this
        exact g1.of (fun i hi => by rw [fu_n (by omega)])
    · rw [e0]
      unfold laOK at *
      rw [fu_n (by omega), cw 5 (by omega)]
      exact hL
  · rw [if_neg (by decide), if_neg (by decide), if_neg (by decide), if_neg (by decide), if_neg (by decide), if_neg (by decide)] at hm
    cases hm1 : mCl b n (wN w 0) a with
    | inl e => rw [hm1] at hm; cases hm
    | inr y =>
      rw [hm1] at hm; cases hm
      show WG (fu w 5 (ni y.1))
      have e : ∀ i, i ≠ 5 → wN (fu w 5 (ni y.1)) i = wN w i := fun i hi => by unfold wN; rw [fu_n hi]
      refine ⟨hC.of (fun i hi => fu_n (by omega)) (fun c hc => fu_n (by omega)), fun p hp => ?_, fun q hq => ?_, fun j hj => ?_, fun d hd => ?_, Or.inr ⟨y.1, by rw [e 0 (by omega)]; exact (mCl_lt hm1).1, fu_s⟩⟩
      · rw [e 1 (by omega)] at hp
        rw [e 0 (by omega)]
        exact (hP p hp).of (Nat.le_refl _) (fun i hi => fu_n (by omega)) (fun i hi => fu_n (by omega))
      · rw [e 2 (by omega)] at hq
        exact (hQ q hq).of (fun i hi => fu_n (by omega))
      · rw [e 3 (by omega)] at hj
        rw [e 0 (by omega)]
        exact (hN j hj).of (Nat.le_refl _) (fun i hi => fu_n (by omega))
      · rw [e 4 (by omega)] at hd
        exact (hD d hd).of (fun i hi => fu_n (by omega))
theorem WG_w0 : WG w0 := by
  have e : ∀ i, i < 5 → wN w0 i = 0 := by
    intro i hi
    unfold wN w0
    rw [fu_n (by omega)]
    rfl
  have e2 : ∀ i, i < 5 → w0 i = ni 0 := fun i hi => by unfold w0; rw [fu_n (by omega)]; rfl
  refine ⟨⟨⟨?_, ?_⟩, ⟨?_, ?_⟩, ⟨?_, ?_⟩, ⟨?_, ?_⟩, ⟨?_, ?_⟩, fun c hc => ?_⟩, fun p hp => ?_, fun p hp => ?_, fun p hp => ?_, fun p hp => ?_, Or.inl fu_s⟩
  all_goals first | (rw [e _ (by omega)] at *; omega) | (rw [e _ (by omega), e2 _ (by omega)]) | (rw [e _ (by omega)]; omega)
end WGT
section RG5
variable {d : Nat} {P : am_O → Prop} {J : am_J} {Pf : am_R} {n : Nat} {b : Nat → Int32}
def rm3 {α β : Type} (m : α ⊕ β) (F : α → Prop) (K : β → Prop) : Prop := match m with
  | .inl e => F e
  | .inr v => K v
/-- what may have changed, the clauses read -/
def rGf (I I' : am_I) : Prop := ∀ o k, o ≠ 166 → o ≠ 168 → ¬ (o = 163 ∧ (k = 4 ∨ (14 ≤ k ∧ k ≤ 19))) → I' o k = I o k
theorem rGf.fr {I I' : am_I} (h : rGf I I') : rFr I I' := fun o k e => h o k (fun z => e (by subst z; simp [rSc])) (fun z => e (by subst z; simp [rSc])) (fun z => e (by
  obtain ⟨rfl, z | z⟩ := z
  · subst z; simp [rSc]
  · have : k = 14 ∨ k = 15 ∨ k = 16 ∨ k = 17 ∨ k = 18 ∨ k = 19 := by omega
    rcases this with rfl | rfl | rfl | rfl | rfl | rfl <;> simp [rSc]))
theorem rGf.trans {I I' I'' : am_I} (h : rGf I I') (g : rGf I' I'') : rGf I I'' := fun o k e1 e2 e3 => (g o k e1 e2 e3).trans (h o k e1 e2 e3)
theorem rGf.at {I : am_I} {x : Int32} : rGf I (am_u I 163 4 x) := fun o k e1 e2 e3 => am_u_nq (by omega)
theorem rr_clauses (hp : am_PF Pf) {l1 : Option Value} (hl1 : am_k1 l1 = true) : ∀ (F : Nat) (I : am_I) (c a : Nat) (w : Nat → Int32) (l3 l4 l5 : Option Value), 62 ≤ F + c → c ≤ 60 → WG w → RM I b n a → I 163 5 = -1 → I 163 7 = 0 → I 166 = w →
    rm3 (mClauses b n F w c a) (fun e => e.2.2 ≤ 60 → e.2.1 ≤ 600 → ∀ (I' : am_I) (l3 l4 l5 : Option Value), rFF I I' e.1 e.2.1 → am_go none (d + 41) 229 (170, [some (.ref 163), l1, some (.int (ni e.2.2)), l3, l4, l5], [], (am_SH, I', J, Pf), 0, 0) P)
      (fun w' => WG w' → ∀ (I' : am_I) (c' : Nat) (l3 l4 l5 : Option Value), c' ≤ 60 → I' 166 = w' → rGf I I' → am_go none (d + 41) 229 (170, [some (.ref 163), l1, some (.int (ni c')), l3, l4, l5], [], (am_SH, I', J, Pf), 0, 0) P) →
    am_go none (d + 41) 229 (44, [some (.ref 163), l1, some (.int (ni c)), l3, l4, l5], [], (am_SH, I, J, Pf), 0, 0) P := by
  intro F
  induction F with
  | zero => intro I c a w l3 l4 l5 hF hc; omega
  | succ F ih =>
    intro I c a w l3 l4 l5 hF hc hG h h5 ho hw kk
    have hq := rsk_le (b := b) h.2.2.2.1
    have hqq := rsk_rsk (b := b) h.2.2.2.1
    have hn6 := h.2.2.2.2
    unfold mClauses at kk
    refine v229_44 hp ?_
    rw [if_pos h5]
    refine sr_more (d := d + 39) hp h (fun hR => am_back (v229_55 hp ?_))
    by_cases cn : rsk b n a = n
    · rw [if_pos cn] at kk
      rw [if_neg (show ¬ rsk b n a < n by omega), if_pos rfl]
      exact kk hG _ c _ _ _ hc (by rw [am_u_o (by omega)]; exact hw) rGf.at
    · rw [if_neg cn] at kk
      rw [if_pos (show rsk b n a < n by omega), if_neg (by decide)]
      refine sr_name (d := d + 38) hp hR (fun hR2 => am_back (v229_62 hp (sr_many (d := d + 35) hp (am_back (v229_67 hp ?_)))))
      unfold mClause at kk
      have eNE : mNE b n (rsk b n a) = mNE b n a := by unfold mNE; rw [hqq]
      rw [eNE, hqq]
      rw [hqq, am_u_u] at hR2
      rw [am_u_u]
      have hall : ∀ i, i < mNE b n a - rsk b n a → isLt (b (rsk b n a + i)) = true := fun i hi => ltF_all _ _ i hi
      rw [mny_kd hall]
      have hk7 := kdN_le (b := b) (q := rsk b n a) (e := mNE b n a)
      obtain ⟨hr2, hr3⟩ := kd_rule hall
      generalize hqe : rsk b n a = q at *
      generalize hkd : kdN b q (mNE b n a) = kd at *
      have m5 : am_u I 163 4 (ni q) 163 5 = -1 := u_5 (by omega) h5
      have hfr : rFr I (am_u I 163 4 (ni q)) := rFr.rfl'.u (by simp [rSc])
      have q1 : ¬ (ni q = -1) := ni_neg1 (by omega)
      rw [am_u_same]
      have e166 : am_u I 163 4 (ni q) 166 = w := (am_u_o (by omega)).trans hw
      have hC := hG.1
      by_cases k0 : kd = 0
      · rw [if_pos k0] at kk
        subst k0
        rw [if_pos (show kdI 0 = -1 from rfl), if_pos m5, if_neg q1]
        exact kk hc (by show q ≤ 600; omega) _ _ _ _ (rFF.mark hfr)
      · rw [if_neg k0] at kk
        have cI : ¬ (kdI kd = -1) := by
          have : kd = 1 ∨ kd = 2 ∨ kd = 3 ∨ kd = 4 ∨ kd = 5 ∨ kd = 6 ∨ kd = 7 := by omega
          rcases this with rfl | rfl | rfl | rfl | rfl | rfl | rfl <;> decide
        rw [if_neg cI]
        have c60 : (ni c = 60) ↔ c = 60 := leq 60 (by omega) (by omega)
        -- too many
        have full : (c = 60 ∨ (kd ≠ 7 ∧ wN w (kdC kd) = kdM kd)) → ∀ (l3 l4 l5 : Option Value) (x3 x5 : Int32), am_go none (d + 41) 229 (120, [some (.ref 163), l1, some (.int (ni c)), some (.int x3), l4, some (.int x5)], [], (am_SH, am_u I 163 4 (ni q), J, Pf), 0, 0) P := by
          intro hf l3 l4 l5 x3 x5
          rw [if_pos hf] at kk
          refine v229_120 hp ?_
          rw [if_pos m5, am_u_same, if_neg q1]
          exact kk hc (by show q ≤ 600; omega) _ _ _ _ (rFF.mark hfr)
        -- the clause
        have body : ¬ (c = 60 ∨ (kd ≠ 7 ∧ wN w (kdC kd) = kdM kd)) → am_mth (d + 41) 200 [.ref 163] (am_SH, am_u I 163 4 (ni q), J, Pf) (am_af none (d + 41) 229 140 [some (.ref 163), l1, some (.int (ni c)), some (.int (wv b q (mNE b n a))), some (.int (kdI kd)), some (.int (ni q))] [.ref 163] [] (am_SH, am_u I 163 4 (ni q), J, Pf) 0 0 true P) := by
          intro hnf
          rw [if_neg hnf] at kk
          refine sr_pass (d := d + 39) hp hR (fun hR3 => am_back (v229_143 hp ?_))
          have eE : ltF b (n - q) q = mNE b n a := by unfold mNE; rw [hqe]
          rw [eE, am_u_u] at hR3
          rw [eE, am_u_u]
          have hful : kd ≠ 7 → wN w (kdC kd) < kdM kd := by
            intro h77
            have hne : ¬ wN w (kdC kd) = kdM kd := fun z => hnf (Or.inr ⟨h77, z⟩)
            have hle : wN w (kdC kd) ≤ kdM kd := by
              obtain ⟨⟨w0, w0'⟩, ⟨w1, w1'⟩, ⟨w2, w2'⟩, ⟨w3, w3'⟩, ⟨w4, w4'⟩, wk⟩ := hC
              have : kd = 1 ∨ kd = 2 ∨ kd = 3 ∨ kd = 4 ∨ kd = 5 ∨ kd = 6 := by omega
              rcases this with rfl | rfl | rfl | rfl | rfl | rfl
              · exact w0'
              · exact w1'
              · exact w1'
              · exact w2'
              · exact w3'
              · exact w4'
            omega
          have hfe : rGf I (am_u I 163 4 (ni (mNE b n a))) := rGf.at
          refine sr_clause (d := d + 1) (kd := kd) (w := w) hp (mny_kd hall |>.trans (by rw [hkd])) (fun z => hr2 z) (fun z => hr3 z) (by omega) hk7 hful hC hR3 (u_5 (by omega) h5) (by rw [am_u_nq (by omega)]; exact ho) ((am_u_o (by omega)).trans hw) ?_
          cases hm : mBody b n w kd q c (mNE b n a) with
          | inl e =>
            rw [hm] at kk
            intro I' hF hpl
            refine am_back (v229_151 hp (sr_need_nf (d := d + 38) hp (hF.bad (by omega)) (am_back (v229_157 hp hl1 ?_))))
            rw [if_neg (hF.bad (by omega))]
            refine v229_44 hp ?_
            rw [if_neg (hF.bad (by omega))]
            exact kk hc hpl _ _ _ _ (rFF.after hfe.fr hF)
          | inr z =>
            rw [hm] at kk
            dsimp only [rb] at kk
            intro I' hX
            have hG2 := hG.body (by omega) hk7 hful (by omega) hc hm
            have hX0 : rGf I I' := hfe.trans hX.2.2
            have x5 : I' 163 5 = -1 := by rw [hX0 _ _ (by omega) (by omega) (by omega)]; exact h5
            refine am_back (v229_151 hp (sr_need (d := d + 38) hp (by decide) hX.2.1 x5 ?_))
            cases hm2 : mTake b n 59 z.2 with
            | inl e =>
              rw [hm2] at kk
              intro I'' hF hpl
              refine am_back (v229_157 hp hl1 ?_)
              rw [if_neg (hF.bad (by omega))]
              refine v229_44 hp ?_
              rw [if_neg (hF.bad (by omega))]
              exact kk hc hpl _ _ _ _ (rFF.after hX0.fr hF)
            | inr y =>
              rw [hm2] at kk
              dsimp only at kk
              intro hR9
              refine am_back (v229_157 hp hl1 ?_)
              rw [if_pos (u_5 (by omega) x5), ni_p1]
              have hc59 : c ≠ 60 := fun z => hnf (Or.inl z)
              have hY0 : rGf I (am_u I' 163 4 (ni y)) := hX0.trans rGf.at
              refine ih _ (c + 1) y (kdUp z.1 kd) _ _ _ (by omega) (by omega) hG2 hR9 (u_5 (by omega) x5) (by rw [hY0 _ _ (by omega) (by omega) (by omega)]; exact ho) ((am_u_o (by omega)).trans hX.1) ?_
              revert kk
              cases mClauses b n F (kdUp z.1 kd) (c + 1) y with
              | inl e => exact fun kk h1 h2 I'' l3 l4 l5 hF => kk h1 h2 I'' l3 l4 l5 (rFF.after hY0.fr hF)
              | inr w' => exact fun kk h1 I'' c' l3 l4 l5 h2 h3 h4 => kk h1 I'' c' l3 l4 l5 h2 h3 (hY0.trans h4)
        by_cases cc : c = 60
        · rw [if_pos (c60.mpr cc)]
          exact full (Or.inl cc) l3 _ l5 _ _
        · rw [if_neg (fun z => cc (c60.mp z))]
          have hcnt : ∀ (j M : Nat), j < 5 → M < 100 → w j = ni (wN w j) → wN w j ≤ 20 → ((am_u I 163 4 (ni q) 166 (ni j).toNatClampNeg = @OfNat.ofNat Int32 M _) ↔ wN w j = M) := by
            intro j M hj hM e hle
            rw [e166, ni_nat (by omega), e]
            exact leq M (by omega) (by omega)
          obtain ⟨⟨w0, w0'⟩, ⟨w1, w1'⟩, ⟨w2, w2'⟩, ⟨w3, w3'⟩, ⟨w4, w4'⟩, wk⟩ := hC
          have hkd7 : kd = 1 ∨ kd = 2 ∨ kd = 3 ∨ kd = 4 ∨ kd = 5 ∨ kd = 6 ∨ kd = 7 := by omega
          have one : ∀ (j M : Nat), kdC kd = j → kdM kd = M → kd ≠ 7 → ((am_u I 163 4 (ni q) 166 (ni j).toNatClampNeg = @OfNat.ofNat Int32 M _) ↔ wN w j = M) → (if am_u I 163 4 (ni q) 166 (ni j).toNatClampNeg = @OfNat.ofNat Int32 M _ then am_go none (d + 41) 229 (120, [some (.ref 163), l1, some (.int (ni c)), some (.int (wv b q (mNE b n a))), some (.int (kdI kd)), some (.int (ni q))], [], (am_SH, am_u I 163 4 (ni q), J, Pf), 0, 0) P else am_mth (d + 41) 200 [.ref 163] (am_SH, am_u I 163 4 (ni q), J, Pf) (am_af none (d + 41) 229 140 [some (.ref 163), l1, some (.int (ni c)), some (.int (wv b q (mNE b n a))), some (.int (kdI kd)), some (.int (ni q))] [.ref 163] [] (am_SH, am_u I 163 4 (ni q), J, Pf) 0 0 true P)) := by
            intro j M ej eM h77 hiff
            by_cases cf : wN w j = M
            · rw [if_pos (hiff.mpr cf)]
              exact full (Or.inr ⟨h77, by rw [ej, eM]; exact cf⟩) l3 _ l5 _ _
            · rw [if_neg (fun z => cf (hiff.mp z))]
              exact body (by rintro (z | ⟨z1, z2⟩); exact cc z; rw [ej, eM] at z2; exact cf z2)
          rw [if_pos m5]
          rcases hkd7 with rfl | rfl | rfl | rfl | rfl | rfl | rfl
          · rw [if_neg (show ¬ kdI 1 = 5 by decide)]
            refine ⟨by decide, ?_⟩
            rw [if_pos (show kdI 1 = 0 from rfl)]
            exact one 0 8 rfl rfl (by decide) (hcnt 0 8 (by omega) (by omega) w0 (by omega))
          · rw [if_neg (show ¬ kdI 2 = 5 by decide)]
            refine ⟨by decide, ?_⟩
            rw [if_neg (show ¬ kdI 2 = 0 by decide), if_pos (show kdI 2 = 1 from rfl)]
            exact one 1 20 rfl rfl (by decide) (hcnt 1 20 (by omega) (by omega) w1 (by omega))
          · rw [if_neg (show ¬ kdI 3 = 5 by decide)]
            refine ⟨by decide, ?_⟩
            rw [if_neg (show ¬ kdI 3 = 0 by decide), if_pos (show kdI 3 = 1 from rfl)]
            exact one 1 20 rfl rfl (by decide) (hcnt 1 20 (by omega) (by omega) w1 (by omega))
          · rw [if_neg (show ¬ kdI 4 = 5 by decide)]
            refine ⟨by decide, ?_⟩
            rw [if_neg (show ¬ kdI 4 = 0 by decide), if_neg (show ¬ kdI 4 = 1 by decide), if_pos (show kdI 4 = 2 from rfl)]
            exact one 2 4 rfl rfl (by decide) (hcnt 2 4 (by omega) (by omega) w2 (by omega))
          · rw [if_neg (show ¬ kdI 5 = 5 by decide)]
            refine ⟨by decide, ?_⟩
            rw [if_neg (show ¬ kdI 5 = 0 by decide), if_neg (show ¬ kdI 5 = 1 by decide), if_neg (show ¬ kdI 5 = 2 by decide), if_pos (show kdI 5 = 3 from rfl)]
            exact one 3 8 rfl rfl (by decide) (hcnt 3 8 (by omega) (by omega) w3 (by omega))
          · rw [if_neg (show ¬ kdI 6 = 5 by decide)]
            refine ⟨by decide, ?_⟩
            rw [if_neg (show ¬ kdI 6 = 0 by decide), if_neg (show ¬ kdI 6 = 1 by decide), if_neg (show ¬ kdI 6 = 2 by decide), if_neg (show ¬ kdI 6 = 3 by decide)]
            exact one 4 8 rfl rfl (by decide) (hcnt 4 8 (by omega) (by omega) w4 (by omega))
          · rw [if_pos (show kdI 7 = 5 from rfl)]
            exact body (by rintro (z | ⟨z1, z2⟩); exact cc z; exact z1 rfl)
end RG5
