/-! The reference: parts, productions, quotes, drops -/
/-- the row of the grammar that is read has become z.1 -/
def rGX (I I' : am_I) (b : Nat → Int32) (n : Nat) (z : (Nat → Int32) × Nat) : Prop := I' 166 = z.1 ∧ RM I' b n z.2 ∧ ∀ o k, o ≠ 166 → o ≠ 168 → ¬ (o = 163 ∧ (k = 4 ∨ (14 ≤ k ∧ k ≤ 19))) → I' o k = I o k
theorem rGX.fr {I I' : am_I} {b : Nat → Int32} {n : Nat} {z : (Nat → Int32) × Nat} (h : rGX I I' b n z) : rFr I I' := fun o k e => h.2.2 o k (fun z => e (by subst z; simp [rSc])) (fun z => e (by subst z; simp [rSc])) (fun z => e (by
  obtain ⟨rfl, z | z⟩ := z
  · subst z; simp [rSc]
  · have : k = 14 ∨ k = 15 ∨ k = 16 ∨ k = 17 ∨ k = 18 ∨ k = 19 := by omega
    rcases this with rfl | rfl | rfl | rfl | rfl | rfl <;> simp [rSc]))
theorem rGX.after {I I1 I' : am_I} {b : Nat → Int32} {n : Nat} {z : (Nat → Int32) × Nat} (h : rGX I1 I' b n z) (f : ∀ o k, o ≠ 166 → o ≠ 168 → ¬ (o = 163 ∧ (k = 4 ∨ (14 ≤ k ∧ k ≤ 19))) → I1 o k = I o k) : rGX I I' b n z := ⟨h.1, h.2.1, fun o k e1 e2 e3 => (h.2.2 o k e1 e2 e3).trans (f o k e1 e2 e3)⟩
theorem RM.oth {I I' : am_I} {b : Nat → Int32} {n a : Nat} (h : RM I b n a) (f : ∀ o k, (o = 165 ∨ o = 163 ∧ (k = 3 ∨ k = 4)) → I' o k = I o k) : RM I' b n a := by
  obtain ⟨h1, h2, h3, h4, h5⟩ := h
  exact ⟨by rw [← h1]; funext k; exact f _ _ (by omega), by rw [← h2]; exact f _ _ (by omega), by rw [← h3]; exact f _ _ (by omega), h4, h5⟩
theorem eP_ni {p k : Nat} (hp : p < 20) (hk : k ≤ 4) : (92 : Int32) + (4 * ni p + ni k) * 11 = ni (eP p k) := by
  unfold eP
  rw [show (4 : Int32) = ni 4 from rfl, show (11 : Int32) = ni 11 from rfl, show (92 : Int32) = ni 92 from rfl, ni_mul, ni_add, ni_mul, ni_add]
theorem ni_p1 (a : Nat) : ni a + 1 = ni (a + 1) := by rw [ni_1, ni_add]
theorem ni_p2 (a : Nat) : ni a + 2 = ni (a + 2) := ni_add a 2
theorem ni_p3 (a : Nat) : ni a + 3 = ni (a + 3) := ni_add a 3
section RG
variable {d : Nat} {P : am_O → Prop} {J : am_J} {Pf : am_R} {n : Nat} {b : Nat → Int32}
/-- a word's signs laid into the row -/
theorem rr_lay (hp : am_PF Pf) {e : Nat} (he : e + 11 ≤ 1040) {l1 l2 l3 : Option Value} {l : List Int32} (hl : l.length ≤ 8) {w : Nat → Int32} : ∀ (m : Nat) (I : am_I) (i : Nat), 8 - i = m → i ≤ 8 → I 163 14 = ni l.length → (∀ j, j < l.length → I 168 j = l.getD j 0) → (I 166 = fun k => if e + 3 ≤ k ∧ k < e + 3 + i then l.getD (k - (e + 3)) 0 else w k) →
    (∀ I', I' 166 = wdW w (e + 3) l → (∀ o k, o ≠ 166 → I' o k = I o k) → P (.inl none, (am_SH, I', J, Pf), 0, 0)) →
    am_go none (d + 1) 224 (171, [some (.ref 163), l1, l2, l3, some (.int (ni e)), some (.int (ni i))], [], (am_SH, I, J, Pf), 0, 0) P := by
  intro m
  induction m with
  | zero =>
    intro I i hm hi h14 hrow hw kk
    have : i = 8 := by omega
    subst this
    refine v224_171 hp ?_
    rw [if_pos (by decide)]
    exact kk I hw (fun _ _ _ => rfl)
  | succ m ih =>
    intro I i hm hi h14 hrow hw kk
    refine v224_171 hp ?_
    rw [if_neg (fun z => absurd ((gle 8 (by omega) (by omega)).mp z) (by omega)), h14]
    have ei : ni e + 3 + ni i = ni (e + 3 + i) := by rw [ni_p3, ni_add]
    have nxt : ∀ v : Int32, v = l.getD i 0 → am_go none (d + 1) 224 (171, [some (.ref 163), l1, l2, l3, some (.int (ni e)), some (.int (ni i + 1))], [], (am_SH, am_u I 166 (ni (e + 3 + i)).toNatClampNeg v, J, Pf), 0, 0) P := by
      intro v hv
      rw [ni_nat (by omega), ni_p1]
      refine ih _ (i + 1) (by omega) (by omega) (by rw [am_u_nq (by omega)]; exact h14) (fun j hj => by rw [am_u_nq (by omega)]; exact hrow j hj) ?_ ?_
      · rw [am_u_row, hw]
        funext k
        unfold fu
        dsimp only
        by_cases c : k = e + 3 + i
        · subst c
          rw [if_pos rfl, if_pos (by omega), hv]
          congr 1
          omega
        · rw [if_neg c]
          by_cases c2 : e + 3 ≤ k ∧ k < e + 3 + i
          · rw [if_pos c2, if_pos (by omega)]
          · rw [if_neg c2, if_neg (by omega)]
      · intro I' g1 g2
        exact kk I' g1 (fun o k e => (g2 o k e).trans (am_u_nq (by omega)))
    by_cases c : l.length ≤ i
    · rw [if_pos ((ni_le (by omega) (by omega)).mpr c), ei]
      refine ⟨ni_in (by omega) (by omega), nxt 0 ?_⟩
      rw [List.getD_eq_getElem?_getD, List.getElem?_eq_none (by omega)]
      rfl
    · rw [if_neg (fun z => c ((ni_le (by omega) (by omega)).mp z)), ei, show (ni i).toNatClampNeg = i from ni_nat (by omega)]
      exact ⟨ni_in (by omega) (by omega), ni_in (by omega) (by omega), nxt _ (hrow i (by omega))⟩
variable {I : am_I} {a : Nat}
theorem sr_part (hp : am_PF Pf) {cc p k : Nat} {w : Nat → Int32} (hp20 : p < 20) (hk : k ≤ 4) (hc8 : cc ≤ 8) (h : RM I b n a) (h5 : I 163 5 = -1) (hw : I 166 = w) (hcc : w 0 = ni cc)
    (kk : rm2 (if hz b n (rsk b n a) = 35 ∨ hz b n (rsk b n a) = 64 ∨ hz b n (rsk b n a) = 39 then (if k = 4 then .inl (3, rsk b n a) else mPart b n cc w (eP p k) (rsk b n a)) else .inl (1, rsk b n a)) (fun z => ∀ I', rGX I I' b n z → P (.inl none, (am_SH, I', J, Pf), 0, 0)) (fun kd pl => ∀ I', rFF I I' kd pl → pl ≤ 600 → P (.inl none, (am_SH, I', J, Pf), 0, 0))) :
    am_mth (d + 7) 224 [.ref 163, .int (ni p), .int (ni k)] (am_SH, I, J, Pf) P := by
  have hq := rsk_le (b := b) h.2.2.2.1
  have hqq := rsk_rsk (b := b) h.2.2.2.1
  have hn6 := h.2.2.2.2
  have he : eP p k + 11 ≤ 1040 := by unfold eP; omega
  refine am_mth_of rfl rfl (v224_0 hp (sr_here (d := d + 5) hp h (am_back (v224_4 hp ?_))))
  generalize hqe : rsk b n a = q at *
  have hR := h.at hq.2
  have m5 : am_u I 163 4 (ni q) 163 5 = -1 := u_5 (by omega) h5
  have hfr : rFr I (am_u I 163 4 (ni q)) := rFr.rfl'.u (by simp [rSc])
  have q1 : ¬ (ni q = -1) := ni_neg1 (by omega)
  rw [eP_ni hp20 hk]
  -- a part
  have go : ∀ (x3 : Int32) (l1 l5 : Option Value), hz b n q = x3 → (x3 = 35 ∨ x3 = 64 ∨ x3 = 39) → rm2 (if k = 4 then .inl (3, q) else mPart b n cc w (eP p k) q) (fun z => ∀ I', rGX I I' b n z → P (.inl none, (am_SH, I', J, Pf), 0, 0)) (fun kd pl => ∀ I', rFF I I' kd pl → pl ≤ 600 → P (.inl none, (am_SH, I', J, Pf), 0, 0)) →
      am_go none (d + 6) 224 (48, [some (.ref 163), l1, some (.int (ni k)), some (.int x3), some (.int (ni (eP p k))), l5], [], (am_SH, am_u I 163 4 (ni q), J, Pf), 0, 0) P := by
    intro x3 l1 l5 hx hx3 kk
    refine v224_48 hp ?_
    have k4 : (ni k = 4) ↔ k = 4 := leq 4 (by omega) (by omega)
    by_cases c4 : k = 4
    · rw [if_pos c4] at kk
      rw [if_pos (k4.mpr c4), if_pos m5, am_u_same, if_neg q1]
      exact kk _ (rFF.mark hfr) (by omega)
    · rw [if_neg c4] at kk
      rw [if_neg (fun z => c4 (k4.mp z)), if_pos m5]
      unfold mPart at kk
      rw [hx] at kk
      have hlt : q < n := by
        refine hz_0 hx ?_
        rcases hx3 with rfl | rfl | rfl <;> decide
      by_cases c35 : x3 = 35
      · rw [if_pos c35] at kk
        rw [if_pos c35, ni_nat (by omega)]
        refine ⟨ni_in (by omega) (by omega), ?_⟩
        have g0 : am_u (am_u I 163 4 (ni q)) 166 (eP p k) 0 166 0 = ni cc := by rw [am_u_row, fu_n (by unfold eP; omega), am_u_o (by omega), hw]; exact hcc
        have gR : RM (am_u (am_u I 163 4 (ni q)) 166 (eP p k) 0) b n q := hR.oth (fun o k e => am_u_nq (by omega))
        refine sr_class (d := d + 2) hp hc8 gR (u_5 (by omega) m5) g0 ?_
        cases hm : mCl b n cc q with
        | inl e =>
          rw [hm] at kk
          intro I' hF hpl
          refine am_back (v224_96 hp ?_)
          rw [ni_p1]
          exact ⟨ni_in (by omega) (by omega), kk _ ((rFF.after (hfr.u (by simp [rSc])) hF).then (rNF.rfl'.u (by simp [rSc]) (by omega))) hpl⟩
        | inr z =>
          rw [hm] at kk
          intro hR2 hlt2
          refine am_back (v224_96 hp ?_)
          rw [ni_p1, ni_nat (by omega)]
          refine ⟨ni_in (by omega) (by omega), kk _ ⟨?_, ?_, ?_⟩⟩
          · rw [am_u_row, am_u_o (by omega), am_u_row, am_u_o (by omega), hw]
          · exact hR2.oth (fun o k e => am_u_nq (by omega))
          · intro o k e1 e2 e3
            rw [am_u_nq (by omega), am_u_nq (by omega), am_u_nq (by omega), am_u_nq (by omega)]
      · rw [if_neg c35] at kk ⊢
        by_cases c64 : x3 = 64
        · rw [if_pos c64] at kk
          rw [if_pos c64, ni_nat (by omega), am_u_same, ni_p1, am_u_u]
          refine ⟨ni_in (by omega) (by omega), ?_⟩
          rw [show (7 : Int32) = ni 8 - ni 1 from by decide]
          have gR : RM (am_u (am_u I 163 4 (ni (q + 1))) 166 (eP p k) 1) b n (q + 1) := (h.at (by omega)).oth (fun o k e => am_u_nq (by omega))
          refine sr_num (d := d + 3) hp (by omega) gR (u_5 (by omega) (u_5 (by omega) h5)) ?_
          cases hm : mNum b n 8 (q + 1) with
          | inl e =>
            rw [hm] at kk
            intro I' hF hpl
            refine am_back (v224_139 hp ?_)
            rw [ni_p1]
            exact ⟨ni_in (by omega) (by omega), kk _ ((rFF.after ((rFr.rfl'.u (by simp [rSc])).u (by simp [rSc])) hF).then (rNF.rfl'.u (by simp [rSc]) (by omega))) hpl⟩
          | inr z =>
            rw [hm] at kk
            intro hR2 hlt2
            refine am_back (v224_139 hp ?_)
            rw [ni_p1, ni_nat (by omega)]
            refine ⟨ni_in (by omega) (by omega), kk _ ⟨?_, ?_, ?_⟩⟩
            · rw [am_u_row, am_u_o (by omega), am_u_row, am_u_o (by omega), hw]
            · exact hR2.oth (fun o k e => am_u_nq (by omega))
            · intro o k e1 e2 e3
              rw [am_u_nq (by omega), am_u_nq (by omega), am_u_nq (by omega), am_u_nq (by omega)]
        · rw [if_neg c64] at kk ⊢
          refine sr_short (d := d + 1) hp hR m5 ?_
          cases hm : mShort b n q with
          | inl e =>
            rw [hm] at kk
            intro I' hF hpl
            refine am_back (v224_147 hp ?_)
            rw [ni_p2, ni_nat (by omega)]
            refine ⟨ni_in (by omega) (by omega), ni_in (by omega) (by omega), ?_⟩
            -- a fault: what is laid is of no matter
            have key : ∀ (m : Nat) (I1 : am_I) (i : Nat), 8 - i = m → i ≤ 8 → rFF I I1 e.1 e.2 → am_go none (d + 6) 224 (171, [some (.ref 163), l1, some (.int (ni k)), some (.int x3), some (.int (ni (eP p k))), some (.int (ni i))], [], (am_SH, I1, J, Pf), 0, 0) P := by
              intro m
              induction m with
              | zero =>
                intro I1 i hm hi hF
                have : i = 8 := by omega
                subst this
                refine v224_171 hp ?_
                rw [if_pos (by decide)]
                exact kk _ hF hpl
              | succ m ih =>
                intro I1 i hm hi hF
                refine v224_171 hp ?_
                rw [if_neg (fun z => absurd ((gle 8 (by omega) (by omega)).mp z) (by omega)), ni_p3, ni_add, ni_p1, ni_nat (by omega), ni_nat (by omega)]
                by_cases c : I1 163 14 ≤ ni i
                · rw [if_pos c]
                  exact ⟨ni_in (by omega) (by omega), ih _ (i + 1) (by omega) (by omega) (hF.then (rNF.rfl'.u (by simp [rSc]) (by omega)))⟩
                · rw [if_neg c]
                  exact ⟨ni_in (by omega) (by omega), ni_in (by omega) (by omega), ih _ (i + 1) (by omega) (by omega) (hF.then (rNF.rfl'.u (by simp [rSc]) (by omega)))⟩
            exact key 8 _ 0 rfl (by omega) ((rFF.after hfr hF).then ((rNF.rfl'.u (by simp [rSc]) (by omega)).u (by simp [rSc]) (by omega)))
          | inr z =>
            rw [hm] at kk
            intro I' hW hl8
            obtain ⟨g1, g2, g3, g4, g5, g6, g7, g8, g9, g10⟩ := hW
            refine am_back (v224_147 hp ?_)
            rw [ni_p2, ni_nat (by omega), ni_nat (by omega), g3]
            refine ⟨ni_in (by omega) (by omega), ni_in (by omega) (by omega), ?_⟩
            have e166 : I' 166 = w := by funext k; rw [g10 166 k (by omega) (by omega), am_u_nq (by omega), hw]
            refine rr_lay (d := d + 5) hp he (l := z.1) hl8 (w := fu (fu w (eP p k) 2) (eP p k + 2) (ni z.1.length)) 8 _ 0 rfl (by omega) ?_ ?_ ?_ ?_
            · rw [am_u_nq (by omega), am_u_nq (by omega)]; exact g3
            · intro j hj
              rw [am_u_nq (by omega), am_u_nq (by omega)]
              exact g6 j hj
            · rw [am_u_row, am_u_row, e166]
              funext i
              rw [if_neg (by omega)]
            · intro I'' f1 f2
              refine kk I'' ⟨f1, ?_, ?_⟩
              · exact g1.oth (fun o k e => by rw [f2 o k (by omega), am_u_nq (by omega), am_u_nq (by omega)])
              · intro o k e1 e2 e3
                rw [f2 o k e1, am_u_nq (by omega), am_u_nq (by omega), g10 o k e2 (by omega), am_u_nq (by omega)]
  by_cases c1 : hz b n q = 35
  · rw [if_pos (Or.inl c1)] at kk
    rw [if_pos c1]
    exact go _ _ _ rfl (Or.inl c1) kk
  · by_cases c2 : hz b n q = 64
    · rw [if_pos (Or.inr (Or.inl c2))] at kk
      rw [if_neg c1, if_pos c2]
      exact go _ _ _ rfl (Or.inr (Or.inl c2)) kk
    · by_cases c3 : hz b n q = 39
      · rw [if_pos (Or.inr (Or.inr c3))] at kk
        rw [if_neg c1, if_neg c2, if_pos c3]
        exact go _ _ _ rfl (Or.inr (Or.inr c3)) kk
      · rw [if_neg (by rintro (z | z | z); exact c1 z; exact c2 z; exact c3 z)] at kk
        rw [if_neg c1, if_neg c2, if_neg c3, if_pos m5, am_u_same, if_neg q1]
        exact kk _ (rFF.mark hfr) (by omega)
end RG
