/-! The reference: clauses -/
def kdI (kd : Nat) : Int32 := if kd = 1 then 0 else if kd = 2 then 1 else if kd = 3 then 1 else if kd = 4 then 2 else if kd = 5 then 3 else if kd = 6 then 4 else if kd = 7 then 5 else -1
theorem mny_kd {b : Nat → Int32} {q e : Nat} (h : ∀ i, i < e - q → isLt (b (q + i)) = true) : mnyI (wv b q e) = kdI (kdN b q e) := by
  have e2 := wv_eq (x := 2) (by omega) (by omega) h
  have e3 := wv_eq (x := 3) (by omega) (by omega) h
  have e4 := wv_eq (x := 4) (by omega) (by omega) h
  have e5 := wv_eq (x := 5) (by omega) (by omega) h
  have e6 := wv_eq (x := 6) (by omega) (by omega) h
  have e7 := wv_eq (x := 7) (by omega) (by omega) h
  have e8 := wv_eq (x := 8) (by omega) (by omega) h
  unfold mnyI kdN
  by_cases c2 : nmB b q e (am_sb 0) = true
  · rw [if_pos c2, if_pos (e2.mpr c2)]; rfl
  rw [if_neg c2, if_neg (fun z => c2 (e2.mp z))]
  by_cases c3 : nmB b q e (am_sb 1) = true
  · rw [if_pos c3, if_pos (e3.mpr c3)]; rfl
  rw [if_neg c3, if_neg (fun z => c3 (e3.mp z))]
  by_cases c4 : nmB b q e (am_sb 2) = true
  · rw [if_pos c4, if_pos (e4.mpr c4)]; rfl
  rw [if_neg c4, if_neg (fun z => c4 (e4.mp z))]
  by_cases c5 : nmB b q e (am_sb 3) = true
  · rw [if_pos c5, if_pos (e5.mpr c5)]; rfl
  rw [if_neg c5, if_neg (fun z => c5 (e5.mp z))]
  by_cases c6 : nmB b q e (am_sb 4) = true
  · rw [if_pos c6, if_pos (e6.mpr c6)]; rfl
  rw [if_neg c6, if_neg (fun z => c6 (e6.mp z))]
  by_cases c7 : nmB b q e (am_sb 5) = true
  · rw [if_pos c7, if_pos (e7.mpr c7)]; rfl
  rw [if_neg c7, if_neg (fun z => c7 (e7.mp z))]
  by_cases c8 : nmB b q e (am_sb 6) = true
  · rw [if_pos c8, if_pos (e8.mpr c8)]; rfl
  rw [if_neg c8, if_neg (fun z => c8 (e8.mp z))]; rfl
theorem kdN_le {b : Nat → Int32} {q e : Nat} : kdN b q e ≤ 7 := by
  unfold kdN
  repeat' split
  all_goals omega
theorem kd_rule {b : Nat → Int32} {q e : Nat} (h : ∀ i, i < e - q → isLt (b (q + i)) = true) : (kdN b q e = 2 → wv b q e = ofc 3) ∧ (kdN b q e = 3 → ¬ wv b q e = ofc 3) := by
  have e3 := wv_eq (x := 3) (by omega) (by omega) h
  rw [e3]
  show (_ → nmB b q e (am_sb 1) = true) ∧ (_ → ¬ nmB b q e (am_sb 1) = true)
  unfold kdN
  by_cases c2 : nmB b q e (am_sb 0) = true
  · rw [if_pos c2]
    exact ⟨fun z => absurd z (by decide), fun z => absurd z (by decide)⟩
  rw [if_neg c2]
  by_cases c3 : nmB b q e (am_sb 1) = true
  · rw [if_pos c3]
    exact ⟨fun _ => c3, fun z => absurd z (by decide)⟩
  rw [if_neg c3]
  refine ⟨fun z => ?_, fun _ => c3⟩
  exfalso
  revert z
  repeat' split
  all_goals omega
/-- the counts of a row -/
def WC (w : Nat → Int32) : Prop := (w 0 = ni (wN w 0) ∧ wN w 0 ≤ 8) ∧ (w 1 = ni (wN w 1) ∧ wN w 1 ≤ 20) ∧ (w 2 = ni (wN w 2) ∧ wN w 2 ≤ 4) ∧ (w 3 = ni (wN w 3) ∧ wN w 3 ≤ 8) ∧ (w 4 = ni (wN w 4) ∧ wN w 4 ≤ 8) ∧ ∀ c, c < wN w 0 → bI (w (8 + 3 * c + 2)) 31 = false
section RG4
variable {d : Nat} {P : am_O → Prop} {J : am_J} {Pf : am_R} {n : Nat} {b : Nat → Int32} {I : am_I} {a : Nat}
theorem fu_fu_c {w : Nat → Int32} {i j k : Nat} {x y z : Int32} {q : Nat} (h1 : q ≠ i) (h2 : q ≠ j) (h3 : q ≠ k) : fu (fu (fu w i x) j y) k z q = w q := by rw [fu_n h3, fu_n h2, fu_n h1]
theorem mParts_0 {cc p : Nat} : ∀ (F : Nat) (w : Nat → Int32) (k a : Nat) (z : (Nat → Int32) × Nat × Nat), mParts b n cc p F w k a = .inr z → (∀ i, i < eP p k → z.1 i = w i) ∧ (k ≤ 4 → z.2.1 ≤ 4) ∧ k ≤ z.2.1
  | 0, w, k, a, z, h => by cases h
  | F + 1, w, k, a, z, h => by
    unfold mParts at h
    split at h
    · cases h; exact ⟨fun _ _ => rfl, fun z => z, Nat.le_refl _⟩
    · split at h
      · split at h
        · cases h
        · rename_i hk
          cases hm : mPart b n cc w (eP p k) (rsk b n a) with
          | inl e => rw [hm] at h; cases h
          | inr y =>
            rw [hm] at h
            obtain ⟨g1, g2, g3⟩ := mParts_0 F y.1 (k + 1) y.2 z h
            have h0 := mPart_0 (by unfold eP; omega) hm
            refine ⟨fun i hi => ?_, ?_, by omega⟩
            · rw [g1 i (by unfold eP at *; omega), h0 i hi]
            · exact fun z => g2 (by omega)
      · cases h
theorem mProd_0 {cc p : Nat} {w : Nat → Int32} {rule : Int32} {z : (Nat → Int32) × Nat} (h : mProd b n cc w p rule a = .inr z) : ∀ i, i < 32 + 3 * p → p < 20 → z.1 i = w i := by
  intro i hi hp
  unfold mProd at h
  cases hm : mNum b n 8 a with
  | inl e => rw [hm] at h; cases h
  | inr y =>
    rw [hm] at h
    dsimp only [rb] at h
    split at h
    · cases h
    · rename_i x hx
      cases h
      obtain ⟨g1, -, -⟩ := mParts_0 _ _ _ _ _ hx
      dsimp only
      rw [fu_n (by omega), g1 i (by unfold eP; omega), fu_n (by omega), fu_n (by omega)]
theorem sr_clause (hp : am_PF Pf) {kd q c : Nat} {W : Int32} {w : Nat → Int32} (hW : mnyI W = kdI kd) (hr2 : kd = 2 → W = ofc 3) (hr3 : kd = 3 → ¬ W = ofc 3) (h1 : 1 ≤ kd) (h7 : kd ≤ 7) (hfull : kd ≠ 7 → wN w (kdC kd) < kdM kd) (hC : WC w) (h : RM I b n a) (h5 : I 163 5 = -1) (ho : I 163 7 = 0) (hw : I 166 = w)
    (kk : rm2 (mBody b n w kd q c a) (fun z => ∀ I', rGX I I' b n (kdUp z.1 kd, z.2) → P (.inl none, (am_SH, I', J, Pf), 0, 0)) (fun kd pl => ∀ I', rFF I I' kd pl → pl ≤ 600 → P (.inl none, (am_SH, I', J, Pf), 0, 0))) :
    am_mth (d + 40) 228 [.ref 163, .int W, .int (ni q), .int (ni c)] (am_SH, I, J, Pf) P := by
  obtain ⟨⟨w0, w0'⟩, ⟨w1, w1'⟩, ⟨w2, w2'⟩, ⟨w3, w3'⟩, ⟨w4, w4'⟩, wk⟩ := hC
  -- the end, behind a fault
  have bad : ∀ (I1 : am_I) (e : Nat × Nat) (l1 l2 l3 l5 : Option Value), rFF I I1 e.1 e.2 → e.2 ≤ 600 → (∀ I', rFF I I' e.1 e.2 → e.2 ≤ 600 → P (.inl none, (am_SH, I', J, Pf), 0, 0)) → am_go none (d + 39) 228 (199, [some (.ref 163), l1, l2, l3, some (.int (kdI kd)), l5], [], (am_SH, I1, J, Pf), 0, 0) P := by
    intro I1 e l1 l2 l3 l5 hF hpl kk
    refine v228_199 hp ?_
    have hin : am_in (kdI kd) 1040 = true := by
      have : kd = 1 ∨ kd = 2 ∨ kd = 3 ∨ kd = 4 ∨ kd = 5 ∨ kd = 6 ∨ kd = 7 := by omega
      rcases this with rfl | rfl | rfl | rfl | rfl | rfl | rfl <;> decide
    by_cases c5 : kdI kd = 5
    · rw [if_pos c5]; exact kk _ hF hpl
    · rw [if_neg c5]
      exact ⟨hin, hin, kk _ (hF.then (rNF.rfl'.u (by simp [rSc]) (by omega))) hpl⟩
  -- the end, of a clause that is counted
  have good : ∀ (I1 : am_I) (z : (Nat → Int32) × Nat) (l1 l2 l3 l5 : Option Value), kd ≠ 7 → z.1 (kdC kd) = w (kdC kd) → rGX I I1 b n z → (∀ I', rGX I I' b n (kdUp z.1 kd, z.2) → P (.inl none, (am_SH, I', J, Pf), 0, 0)) → am_go none (d + 39) 228 (199, [some (.ref 163), l1, l2, l3, some (.int (kdI kd)), l5], [], (am_SH, I1, J, Pf), 0, 0) P := by
    intro I1 z l1 l2 l3 l5 h77 hz0 hX kk
    refine v228_199 hp ?_
    have e : kdI kd = ni (kdC kd) ∧ kdC kd < 5 ∧ w (kdC kd) = ni (wN w (kdC kd)) := by
      have : kd = 1 ∨ kd = 2 ∨ kd = 3 ∨ kd = 4 ∨ kd = 5 ∨ kd = 6 := by omega
      rcases this with rfl | rfl | rfl | rfl | rfl | rfl
      · exact ⟨rfl, by decide, w0⟩
      · exact ⟨rfl, by decide, w1⟩
      · exact ⟨rfl, by decide, w1⟩
      · exact ⟨rfl, by decide, w2⟩
      · exact ⟨rfl, by decide, w3⟩
      · exact ⟨rfl, by decide, w4⟩
    obtain ⟨e1, e2, e3⟩ := e
    rw [e1, if_neg (fun z => absurd ((leq 5 (by omega) (by omega)).mp z) (by omega)), ni_nat (by omega)]
    refine ⟨ni_in (by omega) (by omega), ni_in (by omega) (by omega), kk _ ⟨?_, ?_, ?_⟩⟩
    · rw [am_u_row, hX.1, hz0, e3, ni_p1]
      unfold kdUp
      rw [if_neg h77]
      congr 2
      unfold wN
      rw [hz0]
    · exact hX.2.1.oth (fun o k e => am_u_nq (by omega))
    · intro o k f1 f2 f3
      rw [am_u_nq (by omega)]
      exact hX.2.2 o k f1 f2 f3
  refine am_mth_of rfl rfl (v228_0 hp (sr_many (d := d + 33) hp (am_back (v228_4 hp ?_))))
  rw [hW]
  unfold mBody at kk
  have hkd : kd = 1 ∨ kd = 2 ∨ kd = 3 ∨ kd = 4 ∨ kd = 5 ∨ kd = 6 ∨ kd = 7 := by omega
  have i40 : ∀ k : Nat, k < 1040 → am_in (ni k) 1040 = true := fun k hk => ni_in (by omega) hk
  rcases hkd with rfl | rfl | rfl | rfl | rfl | rfl | rfl
  · -- class
    have hf0 := hfull (by decide)
    change wN w 0 < 8 at hf0
    rw [if_pos rfl] at kk
    refine ⟨by decide, ?_⟩
    rw [if_pos (show kdI 1 = 0 from rfl), show I 166 (kdI 1).toNatClampNeg = ni (wN w 0) from by rw [hw]; exact w0]
    unfold mSet at kk
    refine sr_set (b := b) (n := n) (cc := wN w 0) (cls := wCls w) hp (2 * n + 4) false 0 a (d + 39) I _ (by simp only [Bool.false_eq_true, if_false]; omega) h h5 ho (by omega) ⟨by rw [hw]; exact w0, w0', fun c hc => ⟨fun k hk => by rw [hw]; rfl, by rw [hw]; exact wk c hc⟩⟩ (by simp only [Bool.false_eq_true, if_false]; omega) ?_
    have ei : (8 : Int32) + 3 * ni (wN w 0) = ni (8 + 3 * wN w 0) := by rw [show (3 : Int32) = ni 3 from rfl, show (8 : Int32) = ni 8 from rfl, ni_mul, ni_add]
    cases hm : mS b n (wN w 0) (wCls w) (2 * n + 4) 0 false a with
    | inl e =>
      rw [hm] at kk
      intro I' hF hpl
      refine am_back (v228_24 hp ?_)
      rw [ei, ni_p1, ni_p2]
      refine ⟨i40 _ (by omega), i40 _ (by omega), i40 _ (by omega), bad _ e _ _ _ _ (hF.then ?_) hpl kk⟩
      exact ((rNF.rfl'.u (by simp [rSc]) (by omega)).u (by simp [rSc]) (by omega)).u (by simp [rSc]) (by omega)
    | inr z =>
      rw [hm] at kk
      intro I' hX _
      obtain ⟨x1, ⟨x2, x3⟩, x4⟩ := hX
      obtain ⟨p0, p1, p2⟩ := pq_eq x2 x3
      refine am_back (v228_24 hp ?_)
      rw [ei, ni_p1, ni_p2, ni_nat (by omega), ni_nat (by omega), ni_nat (by omega), p0, p1, p2]
      refine ⟨i40 _ (by omega), i40 _ (by omega), i40 _ (by omega), good _ (fu (fu (fu w (8 + 3 * wN w 0) (pk0 z.1)) (8 + 3 * wN w 0 + 1) (pk1 z.1)) (8 + 3 * wN w 0 + 2) (pk2 z.1), z.2) _ _ _ _ (by decide) ?_ ⟨?_, ?_, ?_⟩ kk⟩
      · rw [show kdC 1 = 0 from rfl]
        dsimp only
        rw [fu_n (by omega), fu_n (by omega), fu_n (by omega)]
      · rw [am_u_row, am_u_row, am_u_row, show I' 166 = w from by rw [← hw]; funext i; exact x4 _ _ (by omega)]
      · exact x1.oth (fun o k e => by rw [am_u_nq (by omega), am_u_nq (by omega), am_u_nq (by omega)])
      · intro o k f1 f2 f3
        rw [am_u_nq (by omega), am_u_nq (by omega), am_u_nq (by omega)]
        exact x4 o k (by omega)
  · -- rule
    have hf0 := hfull (by decide)
    change wN w 1 < 20 at hf0
    rw [if_neg (by decide), if_pos rfl] at kk
    refine ⟨by decide, ?_⟩
    rw [if_neg (show ¬ kdI 2 = 0 by decide), if_pos (show kdI 2 = 1 from rfl), show I 166 (kdI 2).toNatClampNeg = ni (wN w 1) from by rw [hw]; exact w1]
    refine sr_of (d := d + 34) hp rfl (by decide) (am_back (v228_95 hp ?_))
    rw [if_pos (hr2 rfl)]
    refine sr_prod (d := d + 31) (cc := wN w 0) hp hf0 w0' h h5 hw w0 ?_
    cases hm : mProd b n (wN w 0) w (wN w 1) 1 a with
    | inl e =>
      rw [hm] at kk
      exact fun I' hF hpl => am_back (v228_106 hp (bad _ e _ _ _ _ hF hpl kk))
    | inr z =>
      rw [hm] at kk
      exact fun I' hX => am_back (v228_106 hp (good _ z _ _ _ _ (by decide) (mProd_0 hm _ (by show 1 < _; omega) hf0) hX kk))
  · -- token
    have hf0 := hfull (by decide)
    change wN w 1 < 20 at hf0
    rw [if_neg (by decide), if_neg (by decide), if_pos rfl] at kk
    refine ⟨by decide, ?_⟩
    rw [if_neg (show ¬ kdI 3 = 0 by decide), if_pos (show kdI 3 = 1 from rfl), show I 166 (kdI 3).toNatClampNeg = ni (wN w 1) from by rw [hw]; exact w1]
    refine sr_of (d := d + 34) hp rfl (by decide) (am_back (v228_95 hp ?_))
    rw [if_neg (hr3 rfl)]
    refine sr_prod (d := d + 31) (cc := wN w 0) hp hf0 w0' h h5 hw w0 ?_
    cases hm : mProd b n (wN w 0) w (wN w 1) 0 a with
    | inl e =>
      rw [hm] at kk
      exact fun I' hF hpl => am_back (v228_106 hp (bad _ e _ _ _ _ hF hpl kk))
    | inr z =>
      rw [hm] at kk
      exact fun I' hX => am_back (v228_106 hp (good _ z _ _ _ _ (by decide) (mProd_0 hm _ (by show 1 < _; omega) hf0) hX kk))
  · -- quote
    have hf0 := hfull (by decide)
    change wN w 2 < 4 at hf0
    rw [if_neg (by decide), if_neg (by decide), if_neg (by decide), if_pos rfl] at kk
    refine ⟨by decide, ?_⟩
    rw [if_neg (show ¬ kdI 4 = 0 by decide), if_neg (show ¬ kdI 4 = 1 by decide), if_pos (show kdI 4 = 2 from rfl), show I 166 (kdI 4).toNatClampNeg = ni (wN w 2) from by rw [hw]; exact w2]
    refine sr_quote (d := d + 32) hp hf0 h h5 hw ?_
    cases hm : mQuote b n w (wN w 2) a with
    | inl e =>
      rw [hm] at kk
      exact fun I' hF hpl => am_back (v228_121 hp (bad _ e _ _ _ _ hF hpl kk))
    | inr z =>
      rw [hm] at kk
      refine fun I' hX => am_back (v228_121 hp (good _ z _ _ _ _ (by decide) ?_ hX kk))
      show z.1 2 = w 2
      unfold mQuote at hm
      cases hm1 : mNum b n 8 a with
      | inl e => rw [hm1] at hm; cases hm
      | inr y =>
        rw [hm1] at hm; dsimp only [rb] at hm
        cases hm2 : mNum b n 8 y.2 with
        | inl e => rw [hm2] at hm; cases hm
        | inr x =>
          rw [hm2] at hm; dsimp only [rb] at hm
          cases hm3 : mWord b n x.2 with
          | inl e => rw [hm3] at hm; cases hm
          | inr v =>
            rw [hm3] at hm; dsimp only [rb] at hm
            split at hm
            · split at hm
              · cases hm
              · cases hm
                dsimp only
                rw [fu_n (by omega), fu_n (by omega), fu_n (by omega), fu_n (by omega), fu_n (by omega)]
            · cases hm
  · -- not
    have hf0 := hfull (by decide)
    change wN w 3 < 8 at hf0
    rw [if_neg (by decide), if_neg (by decide), if_neg (by decide), if_neg (by decide), if_pos rfl] at kk
    refine ⟨by decide, ?_⟩
    rw [if_neg (show ¬ kdI 5 = 0 by decide), if_neg (show ¬ kdI 5 = 1 by decide), if_neg (show ¬ kdI 5 = 2 by decide), if_pos (show kdI 5 = 3 from rfl), show I 166 (kdI 5).toNatClampNeg = ni (wN w 3) from by rw [hw]; exact w3]
    have ei : (992 : Int32) + 2 * ni (wN w 3) = ni (992 + 2 * wN w 3) := by rw [show (2 : Int32) = ni 2 from rfl, show (992 : Int32) = ni 992 from rfl, ni_mul, ni_add]
    rw [ei]
    unfold mNot at kk
    refine sr_sortN (d := d + 36) hp h h5 ?_
    cases hm : mNum b n 8 a with
    | inl e =>
      rw [hm] at kk
      intro I' hF hpl
      refine am_back (v228_149 hp ?_)
      refine ⟨i40 _ (by omega), ?_⟩
      have hF2 : rFF I (am_u I' 166 (ni (992 + 2 * wN w 3)).toNatClampNeg 0) e.1 e.2 := hF.then (rNF.rfl'.u (by simp [rSc]) (by omega))
      refine sr_class_nf (d := d + 35) hp (hF2.bad (by omega)) (am_back (v228_168 hp ?_))
      rw [ei, ni_p1]
      exact ⟨i40 _ (by omega), bad _ e _ _ _ _ (hF2.then (rNF.rfl'.u (by simp [rSc]) (by omega))) hpl kk⟩
    | inr z =>
      rw [hm] at kk
      dsimp only [rb] at kk
      intro hR hlt
      refine am_back (v228_149 hp ?_)
      refine ⟨i40 _ (by omega), ?_⟩
      rw [ni_nat (by omega)]
      have hR2 : RM (am_u (am_u I 163 4 (ni z.2)) 166 (992 + 2 * wN w 3) (ni z.1)) b n z.2 := hR.oth (fun o k e => am_u_nq (by omega))
      refine sr_class (d := d + 35) hp w0' hR2 (u_5 (by omega) (u_5 (by omega) h5)) (by rw [am_u_nq (by omega), am_u_nq (by omega), hw]; exact w0) ?_
      cases hm2 : mCl b n (wN w 0) z.2 with
      | inl e =>
        rw [hm2] at kk
        intro I' hF hpl
        refine am_back (v228_168 hp ?_)
        rw [ei, ni_p1]
        exact ⟨i40 _ (by omega), bad _ e _ _ _ _ ((rFF.after ((rFr.rfl'.u (by simp [rSc])).u (by simp [rSc])) hF).then (rNF.rfl'.u (by simp [rSc]) (by omega))) hpl kk⟩
      | inr y =>
        rw [hm2] at kk
        intro hR3 hlt2
        refine am_back (v228_168 hp ?_)
        rw [ei, ni_p1, ni_nat (by omega)]
        refine ⟨i40 _ (by omega), good _ (fu (fu w (992 + 2 * wN w 3) (ni z.1)) (992 + 2 * wN w 3 + 1) (ni y.1), y.2) _ _ _ _ (by decide) ?_ ⟨?_, ?_, ?_⟩ kk⟩
        · show fu (fu w _ _) _ _ 3 = w 3
          rw [fu_n (by omega), fu_n (by omega)]
        · rw [am_u_row, am_u_o (by omega), am_u_row, am_u_o (by omega), hw]
        · exact hR3.oth (fun o k e => am_u_nq (by omega))
        · intro o k f1 f2 f3
          rw [am_u_nq (by omega), am_u_nq (by omega), am_u_nq (by omega), am_u_nq (by omega)]
  · -- drop
    have hf0 := hfull (by decide)
    change wN w 4 < 8 at hf0
    rw [if_neg (by decide), if_neg (by decide), if_neg (by decide), if_neg (by decide), if_neg (by decide), if_pos rfl] at kk
    refine ⟨by decide, ?_⟩
    rw [if_neg (show ¬ kdI 6 = 0 by decide), if_neg (show ¬ kdI 6 = 1 by decide), if_neg (show ¬ kdI 6 = 2 by decide), if_neg (show ¬ kdI 6 = 3 by decide), if_pos (show kdI 6 = 4 from rfl), show I 166 (kdI 6).toNatClampNeg = ni (wN w 4) from by rw [hw]; exact w4]
    refine sr_drop (d := d + 34) hp hf0 h h5 hw ?_
    cases hm : mDrop b n w (wN w 4) q c a with
    | inl e =>
      rw [hm] at kk
      exact fun I' hF hpl => am_back (v228_186 hp (bad _ e _ _ _ _ hF hpl kk))
    | inr z =>
      rw [hm] at kk
      refine fun I' hX => am_back (v228_186 hp (good _ z _ _ _ _ (by decide) ?_ hX kk))
      show z.1 4 = w 4
      unfold mDrop at hm
      cases hm1 : mNum b n 8 a with
      | inl e => rw [hm1] at hm; cases hm
      | inr y =>
        rw [hm1] at hm; dsimp only [rb] at hm
        cases hm2 : mNum b n 8 y.2 with
        | inl e => rw [hm2] at hm; cases hm
        | inr x =>
          rw [hm2] at hm; dsimp only [rb] at hm
          split at hm
          · cases hm
          · cases hm
            dsimp only
            rw [fu_n (by omega), fu_n (by omega), fu_n (by omega), fu_n (by omega)]
  · -- lay
    rw [if_neg (by decide), if_neg (by decide), if_neg (by decide), if_neg (by decide), if_neg (by decide), if_neg (by decide)] at kk
    refine ⟨by decide, ?_⟩
    rw [if_neg (show ¬ kdI 7 = 0 by decide), if_neg (show ¬ kdI 7 = 1 by decide), if_neg (show ¬ kdI 7 = 2 by decide), if_neg (show ¬ kdI 7 = 3 by decide), if_neg (show ¬ kdI 7 = 4 by decide)]
    refine sr_class (d := d + 35) hp w0' h h5 (by rw [hw]; exact w0) ?_
    cases hm : mCl b n (wN w 0) a with
    | inl e =>
      rw [hm] at kk
      intro I' hF hpl
      refine am_back (v228_198 hp ⟨by decide, ?_⟩)
      exact bad _ e _ _ _ _ (hF.then (rNF.rfl'.u (by simp [rSc]) (by omega))) hpl kk
    | inr z =>
      rw [hm] at kk
      intro hR hlt
      refine am_back (v228_198 hp ⟨by decide, v228_199 hp ?_⟩)
      rw [if_pos (show kdI 7 = 5 from rfl)]
      refine kk _ ⟨?_, ?_, ?_⟩
      · rw [am_u_row, am_u_o (by omega), hw]
        rfl
      · exact hR.oth (fun o k e => am_u_nq (by show ¬ (o = 166 ∧ _); omega))
      · intro o k f1 f2 f3
        rw [am_u_nq (by omega), am_u_nq (by omega)]
end RG4
