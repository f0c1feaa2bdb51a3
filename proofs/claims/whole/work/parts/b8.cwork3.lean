/-! WORK: the class's whole reading, outermost -/
section CWO
variable {b : Nat → Int32} {n : Nat} {Pf : am_R}
def cS7 (p : Nat) (I I' : am_I) : Prop := ∀ o k, ¬ (o = 1 ∧ (k = 3 ∨ k = 7 ∨ k = 8 ∨ k = 9)) → ¬ (o = 102 ∧ (k = 4 ∨ k = 7)) → ¬ ((103 ≤ o ∧ o ≤ 105) ∧ p ≤ k) → ¬ (o = 106 ∧ 8 * p ≤ k) → I' o k = I o k
def cG7 (I I' : am_I) : Prop := ∀ o k, ¬ (o = 1 ∧ 3 ≤ k) → ¬ (5 ≤ o ∧ o ≤ 7) → ¬ (1000 ≤ o ∧ o < 1039) → ¬ (o = 102 ∧ (k = 4 ∨ k = 7)) → ¬ (103 ≤ o ∧ o ≤ 106) → I' o k = I o k
theorem cS7.trans {p : Nat} {I I' I'' : am_I} (h : cS7 p I I') (g : cS7 p I' I'') : cS7 p I I'' := fun o k e1 e2 e3 e4 => (g o k e1 e2 e3 e4).trans (h o k e1 e2 e3 e4)
theorem cG7.trans {I I' I'' : am_I} (h : cG7 I I') (g : cG7 I' I'') : cG7 I I'' := fun o k e1 e2 e3 e4 e5 => (g o k e1 e2 e3 e4 e5).trans (h o k e1 e2 e3 e4 e5)
theorem cSs.s7 {p : Nat} {I I' : am_I} (h : cSs p I I') : cS7 p I I' := fun o k e1 e2 e3 e4 => h o k e1 (by omega) e3 e4
theorem cSg.g7 {I I' : am_I} (h : cSg I I') : cG7 I I' := fun o k e1 e2 e3 e4 e5 => h o k e1 e2 e3 (by omega) e5
theorem cS7.g {p : Nat} {I I' : am_I} (h : cS7 p I I') : cG7 I I' := fun o k e1 e2 e3 e4 e5 => h o k (by omega) e4 (by omega) (by omega)
theorem cS7.up {p q : Nat} {I I' : am_I} (h : cS7 q I I') (hp : p ≤ q) : cS7 p I I' := fun o k e1 e2 e3 e4 => h o k e1 e2 (by omega) (by omega)
theorem cLa_s7 {I I' : am_I} {d p q : Nat} {s : ST d} (hs : stOK d s) (h : cLa (I 103) (I 104) (I 105) (I 106) d p s) (f : cS7 q I I') (hq : p + csz d s ≤ q) : cLa (I' 103) (I' 104) (I' 105) (I' 106) d p s :=
  cLa_fr d s p hs (fun k e1 e2 => ⟨f _ _ (by omega) (by omega) (by omega) (by omega), f _ _ (by omega) (by omega) (by omega) (by omega), f _ _ (by omega) (by omega) (by omega) (by omega)⟩) (fun j e1 e2 => f _ _ (by omega) (by omega) (by omega) (by omega)) h
/-- what the outermost reading owes: behind a fault that is marked, behind a sign that can't stand there, behind all steps -/
def oK3 (n p : Nat) (I : am_I) (J : am_J) (Pf : am_R) (P : am_O → Prop) (m : (Nat × Nat × Nat) ⊕ List (ST 6)) : Prop := match m with
  | .inl f => (∀ I', I' 1 5 = ni f.1 → I' 1 6 = ni f.2.1 → cG7 I I' → f.2.1 ≤ 600 → I' 102 7 = ni f.2.2 → P (.inl (some (.int 0)), (am_SH, I', J, Pf), 0, 0)) ∧ (∀ I', f.1 = 1 → f.2.1 < n → RD I' n f.2.1 → rsk (I' 2) n f.2.1 = f.2.1 → I' 1 5 = 0 → cS7 p I I' → I' 102 7 = ni f.2.2 → P (.inl (some (.int 1)), (am_SH, I', J, Pf), 0, 0))
  | .inr L => ∀ I' e, RD I' n e → rsk (I' 2) n e = n → cS7 p I I' → I' 102 4 = ni (p + szL (csz 6) L) → layL (cLa (I' 103) (I' 104) (I' 105) (I' 106) 6) (csz 6) p L → (∀ y, y ∈ L → stOK 6 y) → p + szL (csz 6) L ≤ 50 → P (.inl (some (.int 1)), (am_SH, I', J, Pf), 0, 0)
theorem sc_outer (hp : am_PF Pf) (h6 : Pf 102 6 = some 1) (hb0 : ∀ k, b k ≠ -1) (hn : n ≤ 150) {D : Nat} (hD : 40 ≤ D) {P : am_O → Prop} {J : am_J} : ∀ (G a p c : Nat) (I : am_I) (l3 : Option Value), n - a < G → I 2 = b → RD I n a → I 1 5 = 0 → I 1 4 = ni 0 → I 102 4 = ni p → I 102 7 = ni c → 3 * p ≤ a → 3 * c ≤ a →
  oK3 n p I J Pf P (mOut b n G a c) →
  am_go none D 101 (2, [some (.ref 102), some (.int (ni 0)), some (.int (ni c)), l3], [], (am_SH, I, J, Pf), 0, 0) P := by
  obtain ⟨D', rfl⟩ : ∃ D', D = D' + 10 := ⟨D - 10, by omega⟩
  intro G
  induction G with
  | zero => intro a p c I l3 hG; omega
  | succ G ih =>
    intro a p c I l3 hG hb h h5 h4 hc h7 h3 h3c kk
    have ha := h.2.2.1
    have hq := rsk_le (b := b) ha
    refine v101_2 hp ?_
    rw [if_neg (fun z => absurd ((gle 150 (by omega) (by omega)).mp z) (by omega))]
    refine ⟨h6, sp_rd_hbb (d := D' + 9) hp h (am_back (v101_16 hp ?_))⟩
    rw [hb]
    unfold mOut at kk
    have R1 : RD (am_u I 1 3 (ni (rsk b n a))) n (rsk b n a) := h.at hq.2
    have f1 : cRd I (am_u I 1 3 (ni (rsk b n a))) := cRd.rfl'.u (by omega)
    have b1 : (am_u I 1 3 (ni (rsk b n a))) 2 = b := (am_u_o (by omega)).trans hb
    generalize am_u I 1 3 (ni (rsk b n a)) = I1 at R1 f1 b1 ⊢
    have p5 : I1 1 5 = 0 := by rw [f1 _ _ (by omega)]; exact h5
    have p4 : I1 1 4 = ni 0 := by rw [f1 _ _ (by omega)]; exact h4
    have pc : I1 102 4 = ni p := by rw [f1 _ _ (by omega)]; exact hc
    have p7 : I1 102 7 = ni c := by rw [f1 _ _ (by omega)]; exact h7
    have hqq := rsk_rsk (b := b) ha
    by_cases c1 : rsk b n a < n
    · rw [if_neg (fun z => (hv_m1 hb0).mp z c1)]
      have hv1 : hv b n (rsk b n a) = b (rsk b n a) := if_pos c1
      rw [hv1]
      by_cases c93 : b (rsk b n a) = 93
      · rw [if_neg (fun z => z.2 c93), if_pos c1] at kk
        rw [if_pos c93]
        exact kk.2 I1 rfl c1 R1 (by rw [b1]; exact hqq) p5 (f1.ss (p := p)).s7 p7
      · rw [if_pos ⟨c1, c93⟩] at kk
        rw [if_neg c93]
        refine cSTP_all hp h6 hb0 hn 6 (by omega) (D' + 10) _ I1 J (rsk b n a) p (by omega) b1 R1 p5 p4 pc (by omega) ?_
        rw [mSt_rsk ha]
        cases hm : mSt b n 6 a with
        | inl f =>
          rw [hm] at kk
          intro I' q1 q2
          refine am_back (v101_35 hp ?_)
          rw [if_pos rfl]
          refine kk.1 I' q1.1 q1.2.1 (f1.sg.trans q1.2.2).g7 q2 ?_
          rw [q1.2.2 _ _ (by omega) (by omega) (by omega) (by omega) (by omega)]
          exact p7
        | inr z =>
          rw [hm] at kk
          dsimp only [rb] at kk
          obtain ⟨o1, o2, o3⟩ := mSt_ok 6 a z ha hm
          intro I2 q1 q2 q3 q4
          have g2 : cSs p I I2 := f1.ss.trans q2
          refine am_back (v101_35 hp ?_)
          rw [if_neg (by decide)]
          have r2 : I2 2 = b := by rw [← b1]; funext k; exact q2 _ _ (by omega) (by omega) (by omega) (by omega)
          have r5 : I2 1 5 = 0 := by rw [q2 _ _ (by omega) (by omega) (by omega) (by omega)]; exact p5
          have r4 : I2 1 4 = ni 0 := by rw [q2 _ _ (by omega) (by omega) (by omega) (by omega)]; exact p4
          have r7 : I2 102 7 = ni c := by rw [q2 _ _ (by omega) (by omega) (by omega) (by omega)]; exact p7
          refine ⟨h6, sc_take (r := 1000) (d := D' + 8) hp (by decide) (by decide) q1 r5 ?_⟩
          rw [r2]
          cases ht : mTake b n 59 z.2 with
          | inl f =>
            rw [ht] at kk
            intro I' k1 k2
            refine am_back (v101_47 hp ?_)
            rw [if_pos rfl]
            refine kk.1 I' k1.1 k1.2.1 (g2.g.trans k1.sf.2.2).g7 k2 ?_
            rw [k1.sf.2.2 _ _ (by omega) (by omega) (by omega) (by omega) (by omega)]
            exact r7
          | inr e =>
            rw [ht] at kk
            dsimp only at kk
            have t1 := mTake_lt ht
            have t2 := mTake_le (by decide) ht
            intro I3 k1 k2 k3 k4
            refine am_back (v101_47 hp ?_)
            have s7 : I3 102 7 = ni c := by rw [k2 _ _ (by omega)]; exact r7
            rw [if_neg (by decide), if_pos (by decide), ni_p1, s7, ni_p1]
            have g3 : cSs p I I3 := g2.trans k2.ss
            have z3 : cLa (I3 103) (I3 104) (I3 105) (I3 106) 6 p z.1 := cLa_ss o1 q4 (q := p + csz 6 z.1) k2.ss (Nat.le_refl _)
            have f4 : ∀ o k, ¬ (o = 102 ∧ k = 7) → (am_u I3 102 7 (ni (c + 1))) o k = I3 o k := fun o k e => am_u_nq e
            have f47 : (am_u I3 102 7 (ni (c + 1))) 102 7 = ni (c + 1) := am_u_same
            generalize am_u I3 102 7 (ni (c + 1)) = I4 at f4 f47 ⊢
            have z4 : cLa (I4 103) (I4 104) (I4 105) (I4 106) 6 p z.1 := cLa_fr 6 z.1 p o1 (fun k e1 e2 => ⟨f4 _ _ (by omega), f4 _ _ (by omega), f4 _ _ (by omega)⟩) (fun j e1 e2 => f4 _ _ (by omega)) z3
            have g4 : cS7 p I I4 := fun o k e1 e2 e3 e4 => (f4 o k (by omega)).trans (g3 o k e1 (by omega) e3 e4)
            have cp := csz_pos 6 z.1
            refine ih e (p + csz 6 z.1) (c + 1) I4 _ (by omega) (by rw [← r2]; funext k; rw [f4 _ _ (by omega)]; exact k2 _ _ (by omega)) (k1.of (fun k => f4 _ _ (by omega))) (by rw [f4 _ _ (by omega), k2 _ _ (by omega)]; exact r5) (by rw [f4 _ _ (by omega), k2 _ _ (by omega)]; exact r4) (by rw [f4 _ _ (by omega), k2 _ _ (by omega)]; exact q3) f47 (by omega) (by omega) ?_
            cases hl : mOut b n G e (c + 1) with
            | inl f =>
              rw [hl] at kk
              exact ⟨fun I' m1 m2 m3 m4 m5 => kk.1 I' m1 m2 (g4.g.trans m3) m4 m5, fun I' m1 m2 m3 m4 m5 m6 m7 => kk.2 I' m1 m2 m3 m4 m5 (g4.trans (m6.up (by omega))) m7⟩
            | inr y =>
              rw [hl] at kk
              intro I' e' m1 m2 m3 m4 m5 m6 m7
              have es : p + szL (csz 6) (z.1 :: y) = p + csz 6 z.1 + szL (csz 6) y := by
                show p + (csz 6 z.1 + szL (csz 6) y) = _
                omega
              refine kk I' e' m1 m2 (g4.trans (m3.up (by omega))) (by rw [es]; exact m4) ⟨cLa_s7 o1 z4 m3 (Nat.le_refl _), m5⟩ (fun w hw => ?_) (by rw [es]; exact m7)
              rcases List.mem_cons.mp hw with e | e
              · rw [e]; exact o1
              · exact m6 w e
    · rw [if_neg (fun z => c1 z.1), if_neg c1] at kk
      rw [if_pos ((hv_m1 hb0).mpr c1)]
      exact kk I1 _ R1 (by rw [b1, hqq]; omega) (f1.ss (p := p)).s7 pc trivial (fun y hy => by cases hy) (by show p + 0 ≤ 50; omega)
/-- the steps' text, read by the class -/
theorem sc_work (hp : am_PF Pf) (hn : n ≤ 150) (hb0 : ∀ k, b k ≠ -1) {D : Nat} (hD : 50 ≤ D) {P : am_O → Prop} {J : am_J} {I : am_I} (hb : I 2 = b) (h : RD I n 0) (h5 : I 1 5 = 0) (h4 : I 1 4 = 0)
    (kk : match mWk b n with
      | .inl f => ∀ I', I' 1 5 = ni f.1 → I' 1 6 = ni f.2.1 → I' 102 7 = ni f.2.2 → cG7 I I' → f.2.1 ≤ 600 → P (.inl (some (.int 0)), (am_SH, I', J, am_u Pf 102 6 (some 1)), 0, 0)
      | .inr L => ∀ I', I' 1 5 = 0 → I' 1 6 = I 1 6 → cS7 0 I I' → I' 102 4 = ni (szL (csz 6) L) → layL (cLa (I' 103) (I' 104) (I' 105) (I' 106) 6) (csz 6) 0 L → (∀ y, y ∈ L → stOK 6 y) → szL (csz 6) L ≤ 50 → P (.inl (some (.int 1)), (am_SH, I', J, am_u Pf 102 6 (some 1)), 0, 0)) :
    am_mth D 100 [.ref 102, .ref 1] (am_SH, I, J, Pf) P := by
  obtain ⟨D', rfl⟩ : ∃ D', D = D' + 10 := ⟨D - 10, by omega⟩
  have hp2 : am_PF (am_u Pf 102 6 (some 1)) := hp.set rfl
  have h6 : am_u Pf 102 6 (some 1) 102 6 = some 1 := am_u_same
  refine am_mth_of rfl rfl (v100_0 hp ?_)
  have f0 : ∀ o k, ¬ (o = 102 ∧ (k = 4 ∨ k = 7)) → (am_u (am_u I 102 4 0) 102 7 0) o k = I o k := fun o k e => by rw [am_u_nq (by omega), am_u_nq (by omega)]
  have z4 : (am_u (am_u I 102 4 0) 102 7 0) 102 4 = ni 0 := by rw [am_u_nq (by omega)]; exact am_u_same
  have z7 : (am_u (am_u I 102 4 0) 102 7 0) 102 7 = ni 0 := am_u_same
  generalize am_u (am_u I 102 4 0) 102 7 0 = I1 at f0 z4 z7 ⊢
  have g1 : cS7 0 I I1 := fun o k e1 e2 e3 e4 => f0 o k e2
  refine am_mth_of rfl rfl (v101_0 hp2 ?_)
  rw [show (0 : Int32) = ni 0 from rfl]
  unfold mWk at kk
  refine sc_outer hp2 h6 hb0 hn (D := D' + 8) (by omega) (n + 1) 0 0 0 I1 _ (by omega) (by rw [← hb]; funext k; exact f0 _ _ (by omega)) (h.of (fun k => f0 _ _ (by omega))) (by rw [f0 _ _ (by omega)]; exact h5) (by rw [f0 _ _ (by omega), h4]; rfl) z4 z7 (Nat.zero_le _) (Nat.zero_le _) ?_
  cases hm : mOut b n (n + 1) 0 0 with
  | inl f =>
    rw [hm] at kk
    dsimp only at kk
    refine ⟨fun I' q1 q2 q3 q4 q5 => am_back (v100_20 hp2 ?_), fun I' q1 q2 q3 q4 q5 q6 q7 => am_back (v100_20 hp2 ?_)⟩
    · rw [if_pos rfl]
      exact kk I' q1 q2 q5 (g1.g.trans q3) q4
    · rw [if_neg (by decide)]
      have hI2 : I' 2 = b := by rw [← hb]; funext k; rw [q6 _ _ (by omega) (by omega) (by omega) (by omega)]; exact f0 _ _ (by omega)
      refine ⟨h6, sp_rd_takeEnd (d := D' + 7) hp2 q3 (fun z => ?_) (fun _ => am_back (v100_30 hp2 ?_))⟩
      · rw [q4] at z
        rw [hI2] at z
        exact absurd q2 ((hv_m1 hb0).mp z)
      · rw [if_pos rfl, q4]
        unfold rfail
        rw [if_pos (show am_u I' 1 3 (ni f.2.1) 1 5 = 0 by rw [am_u_nq (by omega)]; exact q5)]
        refine kk _ ?_ am_u_same ?_ (fun o k e1 e2 e3 e4 e5 => ?_) (by have := q3.2.2.2; omega)
        · rw [am_u_nq (by omega), am_u_same, q1]; rfl
        · rw [am_u_nq (by omega), am_u_nq (by omega), am_u_nq (by omega)]; exact q7
        · rw [am_u_nq (by omega), am_u_nq (by omega), am_u_nq (by omega)]
          exact (g1.trans q6).g o k e1 e2 e3 e4 e5
  | inr L =>
    rw [hm] at kk
    dsimp only at kk
    intro I' e q1 q2 q3 q4 q5 q6 q7
    refine am_back (v100_20 hp2 ?_)
    rw [if_neg (by decide)]
    have hI2 : I' 2 = b := by rw [← hb]; funext k; rw [q3 _ _ (by omega) (by omega) (by omega) (by omega)]; exact f0 _ _ (by omega)
    refine ⟨h6, sp_rd_takeEnd (d := D' + 7) hp2 q1 (fun _ => am_back (v100_30 hp2 ?_)) (fun z => ?_)⟩
    · rw [if_neg (by decide)]
      rw [Nat.zero_add] at q4 q7
      have fr : ∀ o k, o ≠ 1 → am_u I' 1 3 (ni (rsk (I' 2) n e)) o k = I' o k := fun o k e => am_u_nq (by omega)
      refine kk _ ?_ ?_ (fun o k e1 e2 e3 e4 => ?_) ((fr _ _ (by omega)).trans q4) ?_ q6 q7
      · rw [am_u_nq (by omega), q3 _ _ (by omega) (by omega) (by omega) (by omega), f0 _ _ (by omega)]; exact h5
      · rw [am_u_nq (by omega), q3 _ _ (by omega) (by omega) (by omega) (by omega), f0 _ _ (by omega)]
      · rw [am_u_nq (by omega)]
        exact (g1.trans q3) o k e1 e2 e3 e4
      · refine layL_fr L 0 (fun y q hy _ _ hf => cLa_fr 6 y q (q6 y hy) (fun k _ _ => ⟨fr _ _ (by omega), fr _ _ (by omega), fr _ _ (by omega)⟩) (fun j _ _ => fr _ _ (by omega)) hf) q5
    · rw [q2] at z
      exact absurd (if_neg (by omega)) z
end CWO
