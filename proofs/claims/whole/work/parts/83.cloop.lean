/-! The class: the loop over the clauses; clear -/
/-- what may have changed, many clauses read -/
def cFl (r : Nat) (I I' : am_I) : Prop := ∀ o k, ¬ (o = 1 ∧ 3 ≤ k) → ¬ (o = 3 ∧ k = 2) → ¬ (5 ≤ o ∧ o ≤ 7) → ¬ (r ≤ o ∧ o < r + 39) → I' o k = I o k
def cFFl (r : Nat) (I I' : am_I) (J J' : am_J) (kd pl : Nat) : Prop := I' 1 5 = ni kd ∧ I' 1 6 = ni pl ∧ cFl r I I' ∧ cJr r J J'
theorem cFr.fl {r : Nat} {I I' : am_I} (h : cFr r I I') : cFl r I I' := fun o k e1 _ e3 e4 => h o k e1 (by omega) e3 e4
theorem cFl.trans {r : Nat} {I I' I'' : am_I} (h : cFl r I I') (g : cFl r I' I'') : cFl r I I'' := fun o k e1 e2 e3 e4 => (g o k e1 e2 e3 e4).trans (h o k e1 e2 e3 e4)
theorem cFF.fl {r : Nat} {I I' : am_I} {J J' : am_J} {kd pl : Nat} (h : cFF r I I' J J' kd pl) : cFFl r I I' J J' kd pl := ⟨h.1, h.2.1, h.2.2.1.fl, h.2.2.2⟩
theorem cFFl.after {r : Nat} {I I' I'' : am_I} {J J' J'' : am_J} {kd pl : Nat} (h : cFl r I I') (hJ : cJr r J J') (g : cFFl r I' I'' J' J'' kd pl) : cFFl r I I'' J J'' kd pl := ⟨g.1, g.2.1, h.trans g.2.2.1, hJ.trans g.2.2.2⟩
section CG6
variable {d : Nat} {P : am_O → Prop} {Pf : am_R} {n r : Nat}
theorem cr_clauses (hp : am_PF Pf) (h30 : Pf 3 0 = some 1) (h31 : Pf 3 1 = some r) (hr : r = 16 ∨ r = 55) {b : Nat → Int32} (hb0 : ∀ k, b k ≠ -1) {l1 l2 : Option Value} : ∀ (F : Nat) (I : am_I) (J : am_J) (c a : Nat) (w : Nat → Int32), 62 ≤ F + c → c ≤ 60 → I 2 = b → WG w → cG r I J w → cGxs I w → RD I n a → I 1 5 = 0 → I 1 4 = 0 → I 3 2 = ni c →
    rm3 (mClauses b n F w c a) (fun e => e.2.2 ≤ 60 → e.2.1 ≤ 600 → ∀ I' J', cFFl r I I' J J' e.1 e.2.1 → I' 3 2 = ni e.2.2 → P (.inl (some (.int 0)), (am_SH, I', J', Pf), 0, 0))
      (fun w' => WG w' → ∀ I' J', cFl r I I' → cJr r J J' → I' 1 5 = 0 → cG r I' J' w' → cGxs I' w' → am_go none (d + 41) 21 (79, [some (.ref 3), l1, l2], [], (am_SH, I', J', Pf), 0, 0) P) →
    am_go none (d + 41) 21 (22, [some (.ref 3), l1, l2], [], (am_SH, I, J, Pf), 0, 0) P := by
  have hO := cO_le hr
  intro F
  induction F with
  | zero => intro I J c a w hF hc; omega
  | succ F ih =>
    intro I J c a w hF hc hb hW hG hx h h5 h4 hcl kk
    have hq := rsk_le (b := I 2) h.2.2.1
    have hqq := rsk_rsk (b := I 2) h.2.2.1
    have hn6 := h.2.2.2
    unfold mClauses at kk
    rw [mClause_0] at kk
    refine v21_22 hp ?_
    rw [hcl, if_neg (fun z => absurd ((glt 60 (by omega) (by omega)).mp z) (by omega))]
    refine ⟨h30, sp_rd_hbb hp h (am_back (v21_38 hp ?_))⟩
    rw [hb] at hq hqq ⊢
    by_cases cn : rsk b n a = n
    · rw [if_pos cn] at kk
      rw [cn, show hv b n n = -1 from if_neg (by omega), if_pos rfl]
      exact kk hW _ _ (cRd.rfl'.u (by omega)).fr.fl cJr.rfl' (by rw [am_u_nq (by omega)]; exact h5) (hG.of (fun o k e1 e2 => am_u_nq (by omega)) (fun _ _ => rfl)) (fun d hd => (hx d hd).of (am_u_nq (by omega)) (am_u_nq (by omega)) (fun _ _ => rfl))
    · rw [if_neg cn] at kk
      have hlt : rsk b n a < n := by omega
      rw [if_neg (by rw [show hv b n (rsk b n a) = b (rsk b n a) from if_pos hlt]; exact hb0 _)]
      have gf : cRd I (am_u I 1 3 (ni (rsk b n a))) := cRd.rfl'.u (by omega)
      have eb : am_u I 1 3 (ni (rsk b n a)) 2 = b := (am_u_o (by omega)).trans hb
      refine sc_clause (d := d + 1) (r := r) (c := c) (w := w) (a := rsk b n a) hp h30 h31 hr hc (h.at hq.2) (by rw [am_u_nq (by omega)]; exact h5) (by rw [am_u_nq (by omega)]; exact h4) (by rw [am_u_nq (by omega)]; exact hcl) (hG.of (fun o k e1 e2 => am_u_nq (by omega)) (fun _ _ => rfl)) (fun d hd => (hx d hd).of (am_u_nq (by omega)) (am_u_nq (by omega)) (fun _ _ => rfl)) hW ?_
      rw [eb]
      have em : mCl0 b n w c (rsk b n a) = mCl0 b n w c a := by
        unfold mCl0
        have : mNE b n (rsk b n a) = mNE b n a := by unfold mNE; rw [hqq]
        rw [hqq, this]
      rw [em]
      have hWz : ∀ z, mCl0 b n w c a = .inr z → WG z.1 ∧ c ≠ 60 := by
        intro z hz
        unfold mCl0 at hz
        split at hz
        · cases hz
        · rename_i hk0
          split at hz
          · cases hz
          · rename_i hnf
            cases hmb : mBody b n w (kdN b (rsk b n a) (mNE b n a)) (rsk b n a) c (mNE b n a) with
            | inl e => rw [hmb] at hz; cases hz
            | inr y =>
              rw [hmb] at hz
              cases hz
              have hk7 := kdN_le (b := b) (q := rsk b n a) (e := mNE b n a)
              refine ⟨hW.body (by omega) hk7 (fun h77 => ?_) (by omega) hc hmb, fun z => hnf (Or.inl z)⟩
              have hne : ¬ wN w (kdC (kdN b (rsk b n a) (mNE b n a))) = kdM (kdN b (rsk b n a) (mNE b n a)) := fun z => hnf (Or.inr ⟨h77, z⟩)
              generalize kdN b (rsk b n a) (mNE b n a) = kd at *
              have hle : wN w (kdC kd) ≤ kdM kd := by
                obtain ⟨⟨w0, w0'⟩, ⟨w1, w1'⟩, ⟨w2, w2'⟩, ⟨w3, w3'⟩, ⟨w4, w4'⟩, wk⟩ := hW.1
                have : kd = 1 ∨ kd = 2 ∨ kd = 3 ∨ kd = 4 ∨ kd = 5 ∨ kd = 6 := by omega
                rcases this with rfl | rfl | rfl | rfl | rfl | rfl
                · exact w0'
                · exact w1'
                · exact w1'
                · exact w2'
                · exact w3'
                · exact w4'
              omega
      cases hm : mCl0 b n w c a with
      | inl e =>
        rw [hm] at kk
        dsimp only [rb, rm3] at kk
        intro hpl
        refine ⟨fun I' J' hF => am_back (v21_49 hp ?_), fun I' J' q g1 g2 g3 g4 => am_back (v21_49 hp ?_)⟩
        · rw [if_pos rfl]
          refine kk hc hpl _ _ (cFF.after gf.fr cJr.rfl' hF).fl ?_
          rw [hF.2.2.1 _ _ (by omega) (by omega) (by omega) (by omega), am_u_nq (by omega)]
          exact hcl
        · rw [if_neg (by decide)]
          have hB := gf.bf.trans g2
          have eb' : I' 2 = b := by rw [← hb]; funext k'; exact hB _ _ (by omega) (by omega) (by omega)
          refine ⟨h30, sc_take (r := r) (d := d + 39) hp (by decide) (by decide) g1 (by rw [hB _ _ (by omega) (by omega) (by omega)]; exact h5) ?_⟩
          rw [eb', g4]
          intro I'' hF _
          refine am_back (v21_61 hp ?_)
          rw [if_pos rfl]
          refine kk hc hpl _ _ (cFF.after hB.fr g3 hF).fl ?_
          rw [hF.2.2.1 _ _ (by omega) (by omega) (by omega) (by omega), hB _ _ (by omega) (by omega) (by omega)]
          exact hcl
      | inr z =>
        rw [hm] at kk
        dsimp only [rb] at kk
        obtain ⟨hWz1, hc60⟩ := hWz z hm
        intro I' J' g1 g2 g3 g4 g5
        refine am_back (v21_49 hp ?_)
        rw [if_neg (by decide)]
        refine ⟨h30, ?_⟩
        have hB := gf.bf.trans g2
        have m5 : I' 1 5 = 0 := by rw [hB _ _ (by omega) (by omega) (by omega)]; exact h5
        have eb' : I' 2 = b := by rw [← hb]; funext k'; exact hB _ _ (by omega) (by omega) (by omega)
        refine sc_take (r := r) (d := d + 39) hp (by decide) (by decide) g1 m5 ?_
        rw [eb']
        cases hm2 : mTake b n 59 z.2 with
        | inl e =>
          rw [hm2] at kk
          dsimp only [rm3] at kk
          intro I'' hF hpl
          refine am_back (v21_61 hp ?_)
          rw [if_pos rfl]
          refine kk hc hpl _ _ (cFF.after hB.fr g3 hF).fl ?_
          rw [hF.2.2.1 _ _ (by omega) (by omega) (by omega) (by omega), hB _ _ (by omega) (by omega) (by omega)]
          exact hcl
        | inr y =>
          rw [hm2] at kk
          dsimp only at kk
          intro I'' hR hf _ _
          refine am_back (v21_61 hp ?_)
          rw [if_neg (by decide)]
          have hB2 := hB.trans hf.bf
          have e32 : I'' 3 2 = ni c := by rw [hB2 _ _ (by omega) (by omega) (by omega)]; exact hcl
          rw [e32, ni_p1]
          have hB3 : cFl r I (am_u I'' 3 2 (ni (c + 1))) := fun o k e1 e2 e3 e4 => by rw [am_u_nq (by omega)]; exact hB2.fr.fl o k e1 e2 e3 e4
          refine ih (am_u I'' 3 2 (ni (c + 1))) J' (c + 1) y z.1 (by omega) (by omega) ?_ hWz1 (g4.of (fun o k e1 e2 => by rw [am_u_nq (by omega)]; exact hf _ _ (by omega)) (fun _ _ => rfl)) (fun d hd => (g5 d hd).of (by rw [am_u_nq (by omega)]; exact hf _ _ (by omega)) (by rw [am_u_nq (by omega)]; exact hf _ _ (by omega)) (fun _ _ => rfl)) (hR.cr (fun _ _ => am_u_nq (by omega)) hR.2.2.1 (by rw [am_u_nq (by omega)]; exact hR.2.1)) (by rw [am_u_nq (by omega), hB2 _ _ (by omega) (by omega) (by omega)]; exact h5) (by rw [am_u_nq (by omega), hB2 _ _ (by omega) (by omega) (by omega)]; exact h4) am_u_same ?_
          · rw [am_u_o (by omega), ← hb]; funext k'; exact hB2 _ _ (by omega) (by omega) (by omega)
          · revert kk
            cases mClauses b n F z.1 (c + 1) y with
            | inl e => exact fun kk f1 f2 I3 J3 hF hcl' => kk f1 f2 I3 J3 (cFFl.after hB3 g3 hF) hcl'
            | inr w' => exact fun kk f1 I3 J3 f2 f3 => kk f1 I3 J3 (hB3.trans f2) (g3.trans f3)
end CG6
