/-! The reading of a grammar once more: a grammar that is read leaves no place of a fault -/
section CG6b
variable {d : Nat} {P : am_O → Prop} {Pf : am_R} {n r : Nat}
theorem cr_clauses2 (hp : am_PF Pf) (h30 : Pf 3 0 = some 1) (h31 : Pf 3 1 = some r) (hr : r = 16 ∨ r = 55) {b : Nat → Int32} (hb0 : ∀ k, b k ≠ -1) {l1 l2 : Option Value} : ∀ (F : Nat) (I : am_I) (J : am_J) (c a : Nat) (w : Nat → Int32), 62 ≤ F + c → c ≤ 60 → I 2 = b → WG w → cG r I J w → cGxs I w → RD I n a → I 1 5 = 0 → I 1 4 = 0 → I 3 2 = ni c →
    rm3 (mClauses b n F w c a) (fun e => e.2.2 ≤ 60 → e.2.1 ≤ 600 → ∀ I' J', cFFl r I I' J J' e.1 e.2.1 → I' 3 2 = ni e.2.2 → P (.inl (some (.int 0)), (am_SH, I', J', Pf), 0, 0))
      (fun w' => WG w' → ∀ I' J', cFl r I I' → cJr r J J' → I' 1 5 = 0 → I' 1 6 = I 1 6 → cG r I' J' w' → cGxs I' w' → am_go none (d + 41) 21 (79, [some (.ref 3), l1, l2], [], (am_SH, I', J', Pf), 0, 0) P) →
    am_go none (d + 41) 21 (22, [some (.ref 3), l1, l2], [], (am_SH, I, J, Pf), 0, 0) P := by
  have hO := cO_le hr
  intro F
  induction F with
  | zero => intro I J c a w hF hc; omega
  | succ F ih =>
    intro I J c a w hF hc hb hW hG hx h h5 h4 hcl kk
    have hq := rsk_le (b := I 2) h.2.2.1
    have hqq := rsk_rsk (b := I 2) h.2.2.1
    have hn6 := h.2.2.2
    unfold mClauses at kk
    rw [mClause_0] at kk
    refine v21_22 hp ?_
    rw [hcl, if_neg (fun z => absurd ((glt 60 (by omega) (by omega)).mp z) (by omega))]
    refine ⟨h30, sp_rd_hbb hp h (am_back (v21_38 hp ?_))⟩
    rw [hb] at hq hqq ⊢
    by_cases cn : rsk b n a = n
    · rw [if_pos cn] at kk
      rw [cn, show hv b n n = -1 from if_neg (by omega), if_pos rfl]
      exact kk hW _ _ (cRd.rfl'.u (by omega)).fr.fl cJr.rfl' (by rw [am_u_nq (by omega)]; exact h5) (am_u_nq (by omega)) (hG.of (fun o k e1 e2 => am_u_nq (by omega)) (fun _ _ => rfl)) (fun d hd => (hx d hd).of (am_u_nq (by omega)) (am_u_nq (by omega)) (fun _ _ => rfl))
    · rw [if_neg cn] at kk
      have hlt : rsk b n a < n := by omega
      rw [if_neg (by rw [show hv b n (rsk b n a) = b (rsk b n a) from if_pos hlt]; exact hb0 _)]
      have gf : cRd I (am_u I 1 3 (ni (rsk b n a))) := cRd.rfl'.u (by omega)
      have eb : am_u I 1 3 (ni (rsk b n a)) 2 = b := (am_u_o (by omega)).trans hb
      refine sc_clause (d := d + 1) (r := r) (c := c) (w := w) (a := rsk b n a) hp h30 h31 hr hc (h.at hq.2) (by rw [am_u_nq (by omega)]; exact h5) (by rw [am_u_nq (by omega)]; exact h4) (by rw [am_u_nq (by omega)]; exact hcl) (hG.of (fun o k e1 e2 => am_u_nq (by omega)) (fun _ _ => rfl)) (fun d hd => (hx d hd).of (am_u_nq (by omega)) (am_u_nq (by omega)) (fun _ _ => rfl)) hW ?_
      rw [eb]
      have em : mCl0 b n w c (rsk b n a) = mCl0 b n w c a := by
        unfold mCl0
        have : mNE b n (rsk b n a) = mNE b n a := by unfold mNE; rw [hqq]
        rw [hqq, this]
      rw [em]
      have hWz : ∀ z, mCl0 b n w c a = .inr z → WG z.1 ∧ c ≠ 60 := by
        intro z hz
        unfold mCl0 at hz
        split at hz
        · cases hz
        · rename_i hk0
          split at hz
          · cases hz
          · rename_i hnf
            cases hmb : mBody b n w (kdN b (rsk b n a) (mNE b n a)) (rsk b n a) c (mNE b n a) with
            | inl e => rw [hmb] at hz; cases hz
            | inr y =>
              rw [hmb] at hz
              cases hz
              have hk7 := kdN_le (b := b) (q := rsk b n a) (e := mNE b n a)
              refine ⟨hW.body (by omega) hk7 (fun h77 => ?_) (by omega) hc hmb, fun z => hnf (Or.inl z)⟩
              have hne : ¬ wN w (kdC (kdN b (rsk b n a) (mNE b n a))) = kdM (kdN b (rsk b n a) (mNE b n a)) := fun z => hnf (Or.inr ⟨h77, z⟩)
              generalize kdN b (rsk b n a) (mNE b n a) = kd at *
              have hle : wN w (kdC kd) ≤ kdM kd := by
                obtain ⟨⟨w0, w0'⟩, ⟨w1, w1'⟩, ⟨w2, w2'⟩, ⟨w3, w3'⟩, ⟨w4, w4'⟩, wk⟩ := hW.1
                have : kd = 1 ∨ kd = 2 ∨ kd = 3 ∨ kd = 4 ∨ kd = 5 ∨ kd = 6 := by omega
                rcases this with rfl | rfl | rfl | rfl | rfl | rfl
                · exact w0'
                · exact w1'
                · exact w1'
                · exact w2'
                · exact w3'
                · exact w4'
              omega
      cases hm : mCl0 b n w c a with
      | inl e =>
        rw [hm] at kk
        dsimp only [rb, rm3] at kk
        intro hpl
        refine ⟨fun I' J' hF => am_back (v21_49 hp ?_), fun I' J' q g1 g2 g3 g4 => am_back (v21_49 hp ?_)⟩
        · rw [if_pos rfl]
          refine kk hc hpl _ _ (cFF.after gf.fr cJr.rfl' hF).fl ?_
          rw [hF.2.2.1 _ _ (by omega) (by omega) (by omega) (by omega), am_u_nq (by omega)]
          exact hcl
        · rw [if_neg (by decide)]
          have hB := gf.bf.trans g2
          have eb' : I' 2 = b := by rw [← hb]; funext k'; exact hB _ _ (by omega) (by omega) (by omega)
          refine ⟨h30, sc_take (r := r) (d := d + 39) hp (by decide) (by decide) g1 (by rw [hB _ _ (by omega) (by omega) (by omega)]; exact h5) ?_⟩
          rw [eb', g4]
          intro I'' hF _
          refine am_back (v21_61 hp ?_)
          rw [if_pos rfl]
          refine kk hc hpl _ _ (cFF.after hB.fr g3 hF).fl ?_
          rw [hF.2.2.1 _ _ (by omega) (by omega) (by omega) (by omega), hB _ _ (by omega) (by omega) (by omega)]
          exact hcl
      | inr z =>
        rw [hm] at kk
        dsimp only [rb] at kk
        obtain ⟨hWz1, hc60⟩ := hWz z hm
        intro I' J' g1 g2 g3 g4 g5
        refine am_back (v21_49 hp ?_)
        rw [if_neg (by decide)]
        refine ⟨h30, ?_⟩
        have hB := gf.bf.trans g2
        have m5 : I' 1 5 = 0 := by rw [hB _ _ (by omega) (by omega) (by omega)]; exact h5
        have eb' : I' 2 = b := by rw [← hb]; funext k'; exact hB _ _ (by omega) (by omega) (by omega)
        refine sc_take (r := r) (d := d + 39) hp (by decide) (by decide) g1 m5 ?_
        rw [eb']
        cases hm2 : mTake b n 59 z.2 with
        | inl e =>
          rw [hm2] at kk
          dsimp only [rm3] at kk
          intro I'' hF hpl
          refine am_back (v21_61 hp ?_)
          rw [if_pos rfl]
          refine kk hc hpl _ _ (cFF.after hB.fr g3 hF).fl ?_
          rw [hF.2.2.1 _ _ (by omega) (by omega) (by omega) (by omega), hB _ _ (by omega) (by omega) (by omega)]
          exact hcl
        | inr y =>
          rw [hm2] at kk
          dsimp only at kk
          intro I'' hR hf _ _
          refine am_back (v21_61 hp ?_)
          rw [if_neg (by decide)]
          have hB2 := hB.trans hf.bf
          have e32 : I'' 3 2 = ni c := by rw [hB2 _ _ (by omega) (by omega) (by omega)]; exact hcl
          rw [e32, ni_p1]
          have hB3 : cFl r I (am_u I'' 3 2 (ni (c + 1))) := fun o k e1 e2 e3 e4 => by rw [am_u_nq (by omega)]; exact hB2.fr.fl o k e1 e2 e3 e4
          refine ih (am_u I'' 3 2 (ni (c + 1))) J' (c + 1) y z.1 (by omega) (by omega) ?_ hWz1 (g4.of (fun o k e1 e2 => by rw [am_u_nq (by omega)]; exact hf _ _ (by omega)) (fun _ _ => rfl)) (fun d hd => (g5 d hd).of (by rw [am_u_nq (by omega)]; exact hf _ _ (by omega)) (by rw [am_u_nq (by omega)]; exact hf _ _ (by omega)) (fun _ _ => rfl)) (hR.cr (fun _ _ => am_u_nq (by omega)) hR.2.2.1 (by rw [am_u_nq (by omega)]; exact hR.2.1)) (by rw [am_u_nq (by omega), hB2 _ _ (by omega) (by omega) (by omega)]; exact h5) (by rw [am_u_nq (by omega), hB2 _ _ (by omega) (by omega) (by omega)]; exact h4) am_u_same ?_
          · rw [am_u_o (by omega), ← hb]; funext k'; exact hB2 _ _ (by omega) (by omega) (by omega)
          · revert kk
            cases mClauses b n F z.1 (c + 1) y with
            | inl e => exact fun kk f1 f2 I3 J3 hF hcl' => kk f1 f2 I3 J3 (cFFl.after hB3 g3 hF) hcl'
            | inr w' => exact fun kk f1 I3 J3 f2 f3 f4 f6 => kk f1 I3 J3 (hB3.trans f2) (g3.trans f3) f4 (f6.trans ((am_u_nq (by omega)).trans (hB2 1 6 (by omega) (by omega) (by omega))))
end CG6b
section CRD2b
variable {d : Nat} {P : am_O → Prop} {Pf : am_R} {n r : Nat} {b : Nat → Int32}
theorem sc_readall2 (hp : am_PF Pf) (hr : r = 16 ∨ r = 55) (hb0 : ∀ k, b k ≠ -1) {I : am_I} {J : am_J} (hb : I 2 = b) (h : RD I n 0) (h5 : I 1 5 = 0) (h4 : I 1 4 = 0) {T : Nat → Int32}
    (kk : rm3 (mGram b n T) (fun e => e.2.1 ≤ 600 → e.2.2 ≤ 60 → ∀ I' J', I' 1 5 = ni e.1 → I' 1 6 = ni e.2.1 → I' 3 2 = ni e.2.2 → cFl r I I' → cJr r J J' → P (.inl (some (.int 0)), (am_SH, I', J', rdPf Pf r), 0, 0)) (fun w => WG w → sndW w → ∀ I' J', cG r I' J' w → cSo r I' J' w → I' 1 6 = I 1 6 → cFl r I I' → cJr r J J' → P (.inl (some (.int 1)), (am_SH, I', J', rdPf Pf r), 0, 0))) :
    am_mth (d + 42) 21 [.ref 3, .ref 1, .ref r] (am_SH, I, J, Pf) P := by
  have hp2 := rdPf_hp (r := r) hp
  have hrs := rul_sh hr
  have hO := cO_le hr
  have h31 : rdPf Pf r 3 1 = some r := by simp [rdPf, am_u]
  have h30 : rdPf Pf r 3 0 = some 1 := by simp [rdPf, am_u]
  have hn6 := h.2.2.2
  refine am_mth_of rfl rfl (v21_0 hp hrs ⟨r, h31, hrs, ?_⟩)
  show am_mth (d + 41) 67 [.ref r] (am_SH, I, J, rdPf Pf r) _
  refine am_mth_of rfl rfl (v67_0 hp2 hrs (am_back (v21_17 hp2 ?_)))
  have hag : agr w0 (w0T T) := fun i hi => if_pos hi
  have hW0 := WG_w0.agr hag
  have e0 : ∀ i, i < 5 → w0T T i = 0 := fun i hi => by rw [hag i (by omega)]; unfold w0; rw [fu_n (by omega)]
  have n0 : ∀ i, i < 5 → wN (w0T T) i = 0 := fun i hi => by unfold wN; rw [e0 i hi]; rfl
  have e5 : w0T T 5 = -1 := by rw [hag 5 (by omega)]; exact fu_s
  obtain ⟨S, eS⟩ : ∃ S, S = am_u (am_u (am_u (am_u (am_u (am_u (am_u I r 1 0) r 2 0) r 9 0) r 13 0) r 16 0) r 19 (-1)) 3 2 0 := ⟨_, rfl⟩
  rw [← eS]
  have sF : ∀ o k, ¬ (o = 3 ∧ k = 2) → o ≠ r → S o k = I o k := fun o k g1 g2 => by rw [eS, am_u_nq (by omega), am_u_nq (by omega), am_u_nq (by omega), am_u_nq (by omega), am_u_nq (by omega), am_u_nq (by omega), am_u_nq (by omega)]
  have sFl : cFl r I S := fun o k _ g2 _ g4 => sF o k g2 (by omega)
  have sG : cG r S J (w0T T) := by
    refine ⟨⟨?_, ?_, ?_, ?_, ?_, ?_⟩, fun c hc => ?_, fun c hc => ?_, fun c hc => ?_, fun c hc => ?_, fun c hc => ?_⟩
    · rw [e0 0 (by omega), eS, am_u_nq (by omega), am_u_nq (by omega), am_u_nq (by omega), am_u_nq (by omega), am_u_nq (by omega), am_u_nq (by omega), am_u_same]
    · rw [e0 1 (by omega), eS, am_u_nq (by omega), am_u_nq (by omega), am_u_nq (by omega), am_u_nq (by omega), am_u_nq (by omega), am_u_same]
    · rw [e0 2 (by omega), eS, am_u_nq (by omega), am_u_nq (by omega), am_u_nq (by omega), am_u_nq (by omega), am_u_same]
    · rw [e0 3 (by omega), eS, am_u_nq (by omega), am_u_nq (by omega), am_u_nq (by omega), am_u_same]
    · rw [e0 4 (by omega), eS, am_u_nq (by omega), am_u_nq (by omega), am_u_same]
    · rw [e5, eS, am_u_nq (by omega), am_u_same]
    · rw [n0 0 (by omega)] at hc; omega
    · rw [n0 1 (by omega)] at hc; omega
    · rw [n0 2 (by omega)] at hc; omega
    · rw [n0 3 (by omega)] at hc; omega
    · rw [n0 4 (by omega)] at hc; omega
  have sX : cGxs S (w0T T) := fun d hd => by rw [n0 4 (by omega)] at hd; omega
  have sRD : RD S n 0 := ⟨by rw [sF _ _ (by omega) (by omega)]; exact h.1, by rw [sF _ _ (by omega) (by omega)]; exact h.2.1, h.2.2.1, h.2.2.2⟩
  refine cr_clauses2 (d := d) hp2 h30 h31 hr hb0 62 S J 0 0 (w0T T) (by omega) (by omega) (by funext k; rw [sF _ _ (by omega) (by omega), hb]) hW0 sG sX sRD (by rw [sF _ _ (by omega) (by omega)]; exact h5) (by rw [sF _ _ (by omega) (by omega)]; exact h4) (by rw [eS, am_u_same]; rfl) ?_
  unfold mGram at kk
  cases hm : mClauses b n 62 (w0T T) 0 0 with
  | inl e =>
    rw [hm] at kk
    exact fun e1 e2 I' J' hF hcl => kk e2 e1 I' J' hF.1 hF.2.1 hcl (sFl.trans hF.2.2.1) hF.2.2.2
  | inr w =>
    rw [hm] at kk
    intro hGw I1 J1 f1 f2 f5 f6 f3 f4
    refine v21_79 hp2 ⟨r, h31, hrs, ?_⟩
    refine sc_needs (d0 := d + 39) hp2 hr hGw f3 (fun I2 g1 g2 g3 g4 => am_back (v21_93 hp2 ?_))
    have f32 : cG r I2 J1 w := f3.of2 (fun o k e1 e2 => g4 _ _ (by omega) (by omega) (by omega)) (fun _ _ => rfl)
    have f42 : cGxs I2 w := fun d hd => (f4 d hd).of (g4 _ _ (by omega) (by omega) (by omega)) (g4 _ _ (by omega) (by omega) (by omega)) (fun _ _ => rfl)
    have l2 : cFl r I I2 := (sFl.trans f1).trans (fun o k _ _ _ e => g4 _ _ (by omega) (by omega) (by omega))
    refine sc_drops (d0 := d + 39) hp2 h30 h31 hr hGw f32 f42 g3 (by rw [g4 _ _ (by omega) (by omega) (by omega)]; exact f5) ?_
    dsimp only at kk
    cases hd : dF (badD w) (wN w 4) 0 with
    | some dd =>
      rw [hd] at kk
      obtain ⟨z1, z2, z3⟩ := dF_some _ _ _ hd
      obtain ⟨sx, tx, pl, cl, -, -, -, q1, q2, -, -, q3, q4⟩ := hGw.2.2.2.2.1 dd (by have := hGw.1.2.2.2.2.1.2; omega)
      have n3 : wN w (1008 + 4 * dd + 2) = pl := by unfold wN; rw [q3]; exact ni_nat (by omega)
      have n4 : wN w (1008 + 4 * dd + 3) = cl := by unfold wN; rw [q4]; exact ni_nat (by omega)
      intro I3 h1 h2 h3 h4
      refine am_back (v21_97 hp2 ?_)
      rw [if_pos rfl]
      dsimp only [rm3] at kk
      rw [n3, n4] at kk
      refine kk q1 q2 I3 J1 h2 (by rw [h3, q3]) (by rw [h1, q4]) (l2.trans (fun o k e1 e2 _ _ => h4 _ _ e2 (by omega))) f2
    | none =>
      rw [hd] at kk
      have hs := sndW_of hd
      refine am_back (v21_97 hp2 ?_)
      rw [if_neg (by decide)]
      refine ⟨r, h31, hrs, sc_rest (d0 := d + 37) hp2 hr hGw hs f32 g1 g2 g3 (fun I3 J3 h1 h2 h3 h4 => am_back (v21_116 hp2 ?_))⟩
      exact kk hGw hs I3 J3 h1 h2 ((h3 1 6 (by omega)).trans ((g4 1 6 (by omega) (by omega) (by omega)).trans (f6.trans (sF 1 6 (by omega) (by omega))))) (l2.trans (fun o k _ _ _ e => h3 _ _ (by omega))) (f2.trans (fun o e1 e2 => h4 _ (by omega)))
end CRD2b
