/-! The class: a clause, the loop over the clauses -/
/-- a clause without its ; -/
def mCl0 (b : Nat → Int32) (n : Nat) (w : Nat → Int32) (c a : Nat) : (Nat × Nat) ⊕ ((Nat → Int32) × Nat) :=
  if kdN b (rsk b n a) (mNE b n a) = 0 then .inl (1, rsk b n a)
  else if c = 60 ∨ (kdN b (rsk b n a) (mNE b n a) ≠ 7 ∧ wN w (kdC (kdN b (rsk b n a) (mNE b n a))) = kdM (kdN b (rsk b n a) (mNE b n a))) then .inl (3, rsk b n a)
  else rb (mBody b n w (kdN b (rsk b n a) (mNE b n a)) (rsk b n a) c (mNE b n a)) (fun z => .inr (kdUp z.1 (kdN b (rsk b n a) (mNE b n a)), z.2))
theorem mClause_0 (b : Nat → Int32) (n : Nat) (w : Nat → Int32) (c a : Nat) : mClause b n w c a = rb (mCl0 b n w c a) (fun z => rb (mTake b n 59 z.2) (fun y => .inr (z.1, y))) := by
  unfold mClause mCl0
  split
  · rfl
  · split
    · rfl
    · cases mBody b n w (kdN b (rsk b n a) (mNE b n a)) (rsk b n a) c (mNE b n a) <;> rfl
theorem kdN_0 {b : Nat → Int32} {q : Nat} : kdN b q q = 0 := by
  have h : ∀ x, x < 19 → ¬ nmB b q q (am_sb x) = true := by
    intro x hx z
    have h1 := (nmB_iff.mp z).1
    have h2 := (tx_w1 (x := x + 2) (by omega) (by omega)).1.2
    rw [Nat.add_sub_cancel] at h2
    omega
  unfold kdN
  rw [if_neg (h 0 (by omega)), if_neg (h 1 (by omega)), if_neg (h 2 (by omega)), if_neg (h 3 (by omega)), if_neg (h 4 (by omega)), if_neg (h 5 (by omega)), if_neg (h 6 (by omega))]
section CG5
variable {d : Nat} {P : am_O → Prop} {J : am_J} {Pf : am_R} {n r : Nat} {I : am_I} {a : Nat}
theorem sc_full (hp : am_PF Pf) (h31 : Pf 3 1 = some r) (hr : r = 16 ∨ r = 55) {kd : Nat} {w : Nat → Int32} (h1 : 1 ≤ kd) (h7 : kd ≤ 7) (hG : cG r I J w) (hC : WC w)
    (k1 : (kd ≠ 7 ∧ wN w (kdC kd) = kdM kd) → P (.inl (some (.int 1)), (am_SH, I, J, Pf), 0, 0)) (k0 : ¬ (kd ≠ 7 ∧ wN w (kdC kd) = kdM kd) → P (.inl (some (.int 0)), (am_SH, I, J, Pf), 0, 0)) : am_mth (d + 1) 25 [.ref 3, .int (ni kd)] (am_SH, I, J, Pf) P := by
  obtain ⟨⟨c0, c1, c2, c3, c4, c5⟩, -⟩ := hG
  obtain ⟨⟨w0, w0'⟩, ⟨w1, w1'⟩, ⟨w2, w2'⟩, ⟨w3, w3'⟩, ⟨w4, w4'⟩, wk⟩ := hC
  have one : ∀ (j M : Nat) (x : Int32), kdC kd = j → kdM kd = M → kd ≠ 7 → M < 100 → x = ni (wN w j) → wN w j ≤ M → (if x < @OfNat.ofNat Int32 M _ then P (.inl (some (.int 0)), (am_SH, I, J, Pf), 0, 0) else P (.inl (some (.int 1)), (am_SH, I, J, Pf), 0, 0)) := by
    intro j M x ej eM h77 hM hx hle
    rw [hx]
    by_cases c : wN w j < M
    · rw [if_pos ((llt M (by omega) (by omega)).mpr c)]
      exact k0 (fun z => by rw [ej, eM] at z; omega)
    · rw [if_neg (fun z => c ((llt M (by omega) (by omega)).mp z))]
      exact k1 ⟨h77, by rw [ej, eM]; omega⟩
  refine am_mth_of rfl rfl (v25_0 hp ?_)
  have hkd : kd = 1 ∨ kd = 2 ∨ kd = 3 ∨ kd = 4 ∨ kd = 5 ∨ kd = 6 ∨ kd = 7 := by omega
  rcases hkd with rfl | rfl | rfl | rfl | rfl | rfl | rfl
  · rw [if_pos (show ni 1 = 1 from rfl)]
    exact ⟨r, h31, rul_sh hr, one 0 8 _ rfl rfl (by decide) (by omega) (c0.trans w0) w0'⟩
  · rw [if_neg (show ¬ ni 2 = 1 by decide), if_pos (show ni 2 = 2 from rfl)]
    exact ⟨r, h31, rul_sh hr, one 1 20 _ rfl rfl (by decide) (by omega) (c1.trans w1) w1'⟩
  · rw [if_neg (show ¬ ni 3 = 1 by decide), if_neg (show ¬ ni 3 = 2 by decide), if_pos (show ni 3 = 3 from rfl)]
    exact ⟨r, h31, rul_sh hr, one 1 20 _ rfl rfl (by decide) (by omega) (c1.trans w1) w1'⟩
  · rw [if_neg (show ¬ ni 4 = 1 by decide), if_neg (show ¬ ni 4 = 2 by decide), if_neg (show ¬ ni 4 = 3 by decide), if_pos (show ni 4 = 4 from rfl)]
    exact ⟨r, h31, rul_sh hr, one 2 4 _ rfl rfl (by decide) (by omega) (c2.trans w2) w2'⟩
  · rw [if_neg (show ¬ ni 5 = 1 by decide), if_neg (show ¬ ni 5 = 2 by decide), if_neg (show ¬ ni 5 = 3 by decide), if_neg (show ¬ ni 5 = 4 by decide), if_pos (show ni 5 = 5 from rfl)]
    exact ⟨r, h31, rul_sh hr, one 3 8 _ rfl rfl (by decide) (by omega) (c3.trans w3) w3'⟩
  · rw [if_neg (show ¬ ni 6 = 1 by decide), if_neg (show ¬ ni 6 = 2 by decide), if_neg (show ¬ ni 6 = 3 by decide), if_neg (show ¬ ni 6 = 4 by decide), if_neg (show ¬ ni 6 = 5 by decide), if_pos (show ni 6 = 6 from rfl)]
    exact ⟨r, h31, rul_sh hr, one 4 8 _ rfl rfl (by decide) (by omega) (c4.trans w4) w4'⟩
  · rw [if_neg (show ¬ ni 7 = 1 by decide), if_neg (show ¬ ni 7 = 2 by decide), if_neg (show ¬ ni 7 = 3 by decide), if_neg (show ¬ ni 7 = 4 by decide), if_neg (show ¬ ni 7 = 5 by decide), if_neg (show ¬ ni 7 = 6 by decide)]
    exact k0 (fun z => z.1 rfl)
theorem cKf.after {I1 : am_I} {kd pl : Nat} (h : cKf r n P Pf I J kd pl) (f : cBf r I I1) (e : I1 2 = I 2) : cKf r n P Pf I1 J kd pl := fun hpl => ⟨fun I' J' hF => (h hpl).1 I' J' (cFF.after f.fr cJr.rfl' hF), fun I' q g1 g2 g3 => (h hpl).2 I' q g1 (f.trans g2) (by rw [e] at g3; exact g3)⟩
theorem cG.of {I I' : am_I} {J J' : am_J} {w : Nat → Int32} (h : cG r I J w) (f : ∀ o k, r ≤ o → o < r + 39 → I' o k = I o k) (g : ∀ c, c < wN w 0 → J' (cO r + c) = J (cO r + c)) : cG r I' J' w := by
  obtain ⟨⟨c0, c1, c2, c3, c4, c5⟩, hC, hP, hQ, hN, hD⟩ := h
  have f' : ∀ o k, r ≤ o → o < r + 39 → I' o k = I o k := f
  refine ⟨⟨by rw [f _ _ (by omega) (by omega)]; exact c0, by rw [f _ _ (by omega) (by omega)]; exact c1, by rw [f _ _ (by omega) (by omega)]; exact c2, by rw [f _ _ (by omega) (by omega)]; exact c3, by rw [f _ _ (by omega) (by omega)]; exact c4, by rw [f _ _ (by omega) (by omega)]; exact c5⟩, fun c hc => (hC c hc).of (g c hc) (fun _ _ => rfl), fun p hp => ?_, fun q hq => ?_, fun j hj => ?_, fun d hd => ?_⟩
  · obtain ⟨h1, h2, h3, h4⟩ := hP p hp
    refine ⟨by rw [f _ _ (by omega) (by omega)]; exact h1, by rw [f _ _ (by omega) (by omega)]; exact h2, by rw [f _ _ (by omega) (by omega)]; exact h3, fun k hk => ?_⟩
    obtain ⟨k1, k2, k3⟩ := h4 k hk
    refine ⟨by rw [f _ _ (by omega) (by omega)]; exact k1, fun z => by rw [f _ _ (by omega) (by omega)]; exact k2 z, fun z => ⟨by rw [f _ _ (by omega) (by omega)]; exact (k3 z).1, fun i hi => by rw [f _ _ (by omega) (by omega)]; exact (k3 z).2 i hi⟩⟩
  · obtain ⟨h1, h2, h3⟩ := hQ q hq
    exact ⟨by rw [f _ _ (by omega) (by omega)]; exact h1, by rw [f _ _ (by omega) (by omega)]; exact h2, fun i hi => by rw [f _ _ (by omega) (by omega)]; exact h3 i hi⟩
  · exact (hN j hj).of (f _ _ (by omega) (by omega)) (f _ _ (by omega) (by omega)) (fun _ _ => rfl)
  · exact (hD d hd).of (f _ _ (by omega) (by omega)) (f _ _ (by omega) (by omega)) (fun _ _ => rfl)
theorem sc_clause (hp : am_PF Pf) (h30 : Pf 3 0 = some 1) (h31 : Pf 3 1 = some r) (hr : r = 16 ∨ r = 55) {c : Nat} {w : Nat → Int32} (hc : c ≤ 60) (h : RD I n a) (h5 : I 1 5 = 0) (h4 : I 1 4 = 0) (hcl : I 3 2 = ni c) (hG : cG r I J w) (hx : cGxs I w) (hW : WG w)
    (kk : rm2 (mCl0 (I 2) n w c a) (fun z => ∀ I' J', RD I' n z.2 → cBf r I I' → cJr r J J' → cG r I' J' z.1 → cGxs I' z.1 → P (.inl (some (.int 1)), (am_SH, I', J', Pf), 0, 0)) (fun kd pl => pl ≤ 600 → (∀ I' J', cFF r I I' J J' kd pl → P (.inl (some (.int 0)), (am_SH, I', J', Pf), 0, 0)) ∧ (∀ I' J' q, RD I' n q → cBf r I I' → cJr r J J' → mTake (I 2) n 59 q = .inl (kd, pl) → P (.inl (some (.int 1)), (am_SH, I', J', Pf), 0, 0)))) :
    am_mth (d + 40) 23 [.ref 3] (am_SH, I, J, Pf) P := by
  have hO := cO_le hr
  have hn6 := h.2.2.2
  have hq := rsk_le (b := I 2) h.2.2.1
  have hle := ltF_le (I 2) (n - rsk (I 2) n a) (rsk (I 2) n a)
  unfold mCl0 at kk
  refine am_mth_of rfl rfl (v23_0 hp ⟨h30, sp_rd_takeName (d := d + 37) hp h (fun hlt => am_back (v23_7 hp ?_)) (fun hlt => am_back (v23_7 hp ?_))⟩)
  · rw [if_neg (by decide)]
    change rsk (I 2) n a < mNE (I 2) n a at hlt
    change _ ≤ mNE (I 2) n a ∧ mNE (I 2) n a ≤ _ at hle
    show am_mth (d + 39) 24 _ (am_SH, am_u (am_u I 1 7 (ni (rsk (I 2) n a))) 1 3 (ni (mNE (I 2) n a)), J, Pf) _
    have gR : RD (am_u (am_u I 1 7 (ni (rsk (I 2) n a))) 1 3 (ni (mNE (I 2) n a))) n (mNE (I 2) n a) := (h.oth (by omega) (by omega)).at (by omega)
    have g7 : am_u (am_u I 1 7 (ni (rsk (I 2) n a))) 1 3 (ni (mNE (I 2) n a)) 1 7 = ni (rsk (I 2) n a) := by rw [am_u_nq (by omega), am_u_same]
    have gI : cRd I (am_u (am_u I 1 7 (ni (rsk (I 2) n a))) 1 3 (ni (mNE (I 2) n a))) := (cRd.rfl'.u (by omega)).u (by omega)
    have ge : mNE (I 2) n a ≤ n := by omega
    generalize am_u (am_u I 1 7 (ni (rsk (I 2) n a))) 1 3 (ni (mNE (I 2) n a)) = I1 at *
    generalize rsk (I 2) n a = q at *
    generalize mNE (I 2) n a = e at *
    have eb : I1 2 = I 2 := by funext k'; exact gI _ _ (by omega)
    have m5 : I1 1 5 = 0 := by rw [gI _ _ (by omega)]; exact h5
    have m4 : I1 1 4 = ni 0 := by rw [gI _ _ (by omega)]; exact h4
    have mcl : I1 3 2 = ni c := by rw [gI _ _ (by omega)]; exact hcl
    have hG1 : cG r I1 J w := hG.of (fun o k e1 e2 => gI _ _ (by omega)) (fun _ _ => rfl)
    have hx1 : cGxs I1 w := fun d hd => (hx d hd).of (gI _ _ (by omega)) (gI _ _ (by omega)) (fun _ _ => rfl)
    refine sc_kind (d := d + 33) hp h30 gR g7 (by omega) (am_back (v23_16 hp ?_))
    rw [eb]
    have hk7 := kdN_le (b := I 2) (q := q) (e := e)
    generalize kdN (I 2) q e = kd at *
    by_cases k0 : kd = 0
    · rw [if_pos k0] at kk
      subst k0
      rw [if_pos (show ni 0 = 0 from rfl)]
      refine ⟨h30, ?_⟩
      rw [if_pos m5, g7]
      exact (kk (by show q ≤ 600; omega)).1 _ _ (cFF.set gI.fr cJr.rfl')
    · rw [if_neg k0] at kk
      rw [if_neg (fun z => k0 ((leq 0 (by omega) (by omega)).mp z)), mcl]
      have full : ∀ l1, (c = 60 ∨ (kd ≠ 7 ∧ wN w (kdC kd) = kdM kd)) → am_go none (d + 39) 23 (54, [some (.ref 3), l1], [], (am_SH, I1, J, Pf), 0, 0) P := by
        intro l1 hf
        rw [if_pos hf] at kk
        refine v23_54 hp ⟨h30, ?_⟩
        rw [if_pos m5, g7]
        exact (kk (by show q ≤ 600; omega)).1 _ _ (cFF.set gI.fr cJr.rfl')
      by_cases c60 : c = 60
      · rw [if_pos ((gle 60 (by omega) (by omega)).mpr (by omega))]
        exact full _ (Or.inl c60)
      · rw [if_neg (fun z => c60 (by have := (gle 60 (by omega) (by omega)).mp z; omega))]
        refine sc_full (d := d + 38) hp h31 hr (by omega) hk7 hG1 hW.1 (fun hf => am_back (v23_51 hp ?_)) (fun hf => am_back (v23_51 hp ?_))
        · rw [if_neg (by decide)]
          exact full _ (Or.inr hf)
        · rw [if_neg (by rintro (z | z); exact c60 z; exact hf z)] at kk
          rw [if_pos rfl]
          obtain ⟨⟨cc0, cc1, cc2, cc3, cc4, cc5⟩, hCc, -⟩ := id hG1
          obtain ⟨⟨w0, w0'⟩, ⟨w1, w1'⟩, ⟨w2, w2'⟩, ⟨w3, w3'⟩, ⟨w4, w4'⟩, wk⟩ := id hW.1
          have hfull : ∀ j M, kdC kd = j → kdM kd = M → kd ≠ 7 → wN w j ≤ M → wN w j < M := by
            intro j M ej eM h77 hle
            have : ¬ wN w j = M := fun z => hf ⟨h77, by rw [ej, eM]; exact z⟩
            omega
          -- what a part's fault comes to
          have kf : ∀ (kd0 pl : Nat) (Q : am_O → Prop), (∀ I' J', P (.inl (some (.int 0)), (am_SH, I', J', Pf), 0, 0) → Q (.inl (some (.int 0)), (am_SH, I', J', Pf), 0, 0)) → (∀ I' J', P (.inl (some (.int 1)), (am_SH, I', J', Pf), 0, 0) → Q (.inl (some (.int 1)), (am_SH, I', J', Pf), 0, 0)) → (pl ≤ 600 → (∀ I' J', cFF r I I' J J' kd0 pl → P (.inl (some (.int 0)), (am_SH, I', J', Pf), 0, 0)) ∧ (∀ I' J' q, RD I' n q → cBf r I I' → cJr r J J' → mTake (I 2) n 59 q = .inl (kd0, pl) → P (.inl (some (.int 1)), (am_SH, I', J', Pf), 0, 0))) → cKf r n Q Pf I1 J kd0 pl := by
            intro kd0 pl Q q0 q1 kk hpl
            exact ⟨fun I' J' hF => q0 _ _ ((kk hpl).1 _ _ (cFF.after gI.fr cJr.rfl' hF)), fun I' q' f1 f2 f3 => q1 _ _ ((kk hpl).2 _ _ q' f1 (gI.bf.trans f2) cJr.rfl' (by rw [eb] at f3; exact f3))⟩
          unfold mBody at kk
          have hkd : kd = 1 ∨ kd = 2 ∨ kd = 3 ∨ kd = 4 ∨ kd = 5 ∨ kd = 6 ∨ kd = 7 := by omega
          rcases hkd with rfl | rfl | rfl | rfl | rfl | rfl | rfl
          · -- class
            have hf0 := hfull 0 8 rfl rfl (by decide) w0'
            rw [if_pos rfl] at kk
            rw [if_pos (show ni 1 = 1 from rfl), ni_0]
            unfold mSet at kk
            refine sc_set (b := I 2) (n := n) (cc := wN w 0) (cls := wCls w) hp h30 h31 hr (2 * n + 4) false 0 e (d + 39) 0 I1 J _ (by simp only [Bool.false_eq_true, if_false]; omega) eb gR m5 m4 (by omega) (by omega) ⟨cc0.trans w0, w0', fun c hc => hCc c hc⟩ (by simp only [Bool.false_eq_true, if_false]; omega) ?_
            cases hm : mS (I 2) n (wN w 0) (wCls w) (2 * n + 4) 0 false e with
            | inl e' =>
              rw [hm] at kk
              intro I' J' hF hpl
              refine am_back (v23_113 hp ?_)
              rw [if_pos rfl]
              exact (kk hpl).1 _ _ (cFF.after gI.fr cJr.rfl' hF)
            | inr z =>
              rw [hm] at kk
              dsimp only [rb] at kk
              intro I' J' hX _
              obtain ⟨x1, x2, x3, x4, x5⟩ := hX
              refine am_back (v23_113 hp ?_)
              rw [if_neg (by decide)]
              have e1' : I' r 1 = ni (wN w 0) := by rw [x2 _ _ (by omega)]; exact cc0.trans w0
              refine sc_addClass (d := d + 37) hp h31 hr hf0 e1' x4 (fun J3 hJ => am_back (v23_120 hp ?_))
              rw [if_neg (by decide)]
              have hx12 := gI.trans x2
              obtain ⟨r1, r2⟩ := cG.set (I' := am_u I' r 1 (ni (wN w 0 + 1))) (J' := J3) (z := fu (fu (fu w (8 + 3 * wN w 0) (pk0 z.1)) (8 + 3 * wN w 0 + 1) (pk1 z.1)) (8 + 3 * wN w 0 + 2) (pk2 z.1)) hG1 hx1 hW hr hf0 (fun i hi => by rw [fu_n (by omega), fu_n (by omega), fu_n (by omega)]) ⟨fun k hk => by
                rw [hJ.2.1 k hk, x3 k hk]
                unfold wCls
                rw [fu_n (by omega), fu_n (by omega), fu_s, fu_n (by omega), fu_s, fu_s, pq_r3 hk], hJ.2.2⟩ am_u_same (fun c hc => (hJ.1 _ (by omega)).trans (x5 _ (by omega))) (fun o k' f1 f2 => by rw [am_u_nq (by omega)]; exact x2 o k' f1)
              refine kk _ _ (x1.cr (fun _ _ => am_u_nq (by omega)) x1.2.2.1 (by rw [am_u_nq (by omega)]; exact x1.2.1)) (hx12.bf.u (by omega)) (fun o f1 f2 => (hJ.1 o (by omega)).trans (x5 o (by omega))) r1 r2
          · -- rule
            have hf0 := hfull 1 20 rfl rfl (by decide) w1'
            rw [if_neg (by decide), if_pos rfl] at kk
            rw [if_neg (show ¬ ni 2 = 1 by decide), if_pos (show ni 2 = 2 from rfl)]
            refine sc_prod (r := r) (cc := wN w 0) (p := wN w 1) (w := w) (d := d + 31) hp h30 h31 hr (Or.inr rfl) hf0 w0' gR m5 (cc0.trans w0) (cc1.trans w1) ?_
            rw [eb]
            cases hm : mProd (I 2) n (wN w 0) w (wN w 1) 1 e with
            | inl e' =>
              rw [hm] at kk
              exact kf _ _ _ (fun I' J' k => am_back (v23_134 hp ⟨Or.inl rfl, k⟩)) (fun I' J' k => am_back (v23_134 hp ⟨Or.inr rfl, k⟩)) kk
            | inr z =>
              rw [hm] at kk
              obtain ⟨o1, o2⟩ := mProd_ok (Or.inr rfl) hf0 hm
              intro I' g1 g2 g3 g4
              obtain ⟨r1, r2⟩ := cG.prod hG1 hx1 hW hr hf0 o2 g2 g3 o1 g4
              exact am_back (v23_134 hp ⟨Or.inr rfl, kk _ _ g1 (gI.bf.trans (fun o k' f1 f2 f3 => g4 o k' f1 (by omega) (by omega) (by omega) (by omega))) cJr.rfl' r1 r2⟩)
          · -- token
            have hf0 := hfull 1 20 rfl rfl (by decide) w1'
            rw [if_neg (by decide), if_neg (by decide), if_pos rfl] at kk
            rw [if_neg (show ¬ ni 3 = 1 by decide), if_neg (show ¬ ni 3 = 2 by decide), if_pos (show ni 3 = 3 from rfl)]
            refine sc_prod (r := r) (cc := wN w 0) (p := wN w 1) (w := w) (d := d + 31) hp h30 h31 hr (Or.inl rfl) hf0 w0' gR m5 (cc0.trans w0) (cc1.trans w1) ?_
            rw [eb]
            cases hm : mProd (I 2) n (wN w 0) w (wN w 1) 0 e with
            | inl e' =>
              rw [hm] at kk
              exact kf _ _ _ (fun I' J' k => am_back (v23_140 hp ⟨Or.inl rfl, k⟩)) (fun I' J' k => am_back (v23_140 hp ⟨Or.inr rfl, k⟩)) kk
            | inr z =>
              rw [hm] at kk
              obtain ⟨o1, o2⟩ := mProd_ok (Or.inl rfl) hf0 hm
              intro I' g1 g2 g3 g4
              obtain ⟨r1, r2⟩ := cG.prod hG1 hx1 hW hr hf0 o2 g2 g3 o1 g4
              exact am_back (v23_140 hp ⟨Or.inr rfl, kk _ _ g1 (gI.bf.trans (fun o k' f1 f2 f3 => g4 o k' f1 (by omega) (by omega) (by omega) (by omega))) cJr.rfl' r1 r2⟩)
          · -- quote
            have hf0 := hfull 2 4 rfl rfl (by decide) w2'
            rw [if_neg (by decide), if_neg (by decide), if_neg (by decide), if_pos rfl] at kk
            rw [if_neg (show ¬ ni 4 = 1 by decide), if_neg (show ¬ ni 4 = 2 by decide), if_neg (show ¬ ni 4 = 3 by decide), if_pos (show ni 4 = 4 from rfl)]
            refine sc_quote (r := r) (w := w) (d := d + 34) hp h30 h31 hr hf0 gR m5 (cc2.trans w2) ?_
            rw [eb]
            cases hm : mQuote (I 2) n w (wN w 2) e with
            | inl e' =>
              rw [hm] at kk
              exact kf _ _ _ (fun I' J' k => am_back (v23_145 hp ⟨Or.inl rfl, k⟩)) (fun I' J' k => am_back (v23_145 hp ⟨Or.inr rfl, k⟩)) kk
            | inr z =>
              rw [hm] at kk
              obtain ⟨o1, o2⟩ := mQuote_ok hm
              intro I' g1 g2 g3 g4
              obtain ⟨r1, r2⟩ := cG.quote hG1 hx1 hW hr hf0 o2 g2 g3 g4
              exact am_back (v23_145 hp ⟨Or.inr rfl, kk _ _ g1 (gI.bf.trans (fun o k' f1 f2 f3 => g4 o k' f1 (by omega) (by omega) (by omega) (by omega))) cJr.rfl' r1 r2⟩)
          · -- not
            have hf0 := hfull 3 8 rfl rfl (by decide) w3'
            rw [if_neg (by decide), if_neg (by decide), if_neg (by decide), if_neg (by decide), if_pos rfl] at kk
            rw [if_neg (show ¬ ni 5 = 1 by decide), if_neg (show ¬ ni 5 = 2 by decide), if_neg (show ¬ ni 5 = 3 by decide), if_neg (show ¬ ni 5 = 4 by decide), if_pos (show ni 5 = 5 from rfl)]
            refine sc_not (r := r) (cc := wN w 0) (w := w) (d := d + 35) hp h30 h31 hr hf0 w0' gR m5 (cc0.trans w0) (cc3.trans w3) ?_
            rw [eb]
            cases hm : mNot (I 2) n (wN w 0) w (wN w 3) e with
            | inl e' =>
              rw [hm] at kk
              exact kf _ _ _ (fun I' J' k => am_back (v23_150 hp ⟨Or.inl rfl, k⟩)) (fun I' J' k => am_back (v23_150 hp ⟨Or.inr rfl, k⟩)) kk
            | inr z =>
              rw [hm] at kk
              obtain ⟨o1, o2⟩ := mNot_ok hm
              intro I' g1 g2 g3 g4
              obtain ⟨r1, r2⟩ := cG.not hG1 hx1 hW hr hf0 o2 g2 g3 g4
              exact am_back (v23_150 hp ⟨Or.inr rfl, kk _ _ g1 (gI.bf.trans (fun o k' f1 f2 f3 => g4 o k' f1 (by omega) (by omega))) cJr.rfl' r1 r2⟩)
          · -- drop
            have hf0 := hfull 4 8 rfl rfl (by decide) w4'
            rw [if_neg (by decide), if_neg (by decide), if_neg (by decide), if_neg (by decide), if_neg (by decide), if_pos rfl] at kk
            rw [if_neg (show ¬ ni 6 = 1 by decide), if_neg (show ¬ ni 6 = 2 by decide), if_neg (show ¬ ni 6 = 3 by decide), if_neg (show ¬ ni 6 = 4 by decide), if_neg (show ¬ ni 6 = 5 by decide), if_pos (show ni 6 = 6 from rfl)]
            refine sc_drop (r := r) (w := w) (d := d + 35) hp h30 h31 hr hf0 gR m5 (cc4.trans w4) g7 mcl ?_
            rw [eb]
            cases hm : mDrop (I 2) n w (wN w 4) q c e with
            | inl e' =>
              rw [hm] at kk
              exact kf _ _ _ (fun I' J' k => am_back (v23_155 hp ⟨Or.inl rfl, k⟩)) (fun I' J' k => am_back (v23_155 hp ⟨Or.inr rfl, k⟩)) kk
            | inr z =>
              rw [hm] at kk
              obtain ⟨o1, o2⟩ := mDrop_ok (by omega) hc hm
              intro I' g1 g2 g2' g3 g4
              obtain ⟨r1, r2⟩ := cG.drop hG1 hx1 hW hr hf0 o2 g2 g2' g3 g4
              exact am_back (v23_155 hp ⟨Or.inr rfl, kk _ _ g1 (gI.bf.trans (fun o k' f1 f2 f3 => g4 o k' f1 (by omega) (by omega))) cJr.rfl' r1 r2⟩)
          · -- lay
            rw [if_neg (by decide), if_neg (by decide), if_neg (by decide), if_neg (by decide), if_neg (by decide), if_neg (by decide)] at kk
            rw [if_neg (show ¬ ni 7 = 1 by decide), if_neg (show ¬ ni 7 = 2 by decide), if_neg (show ¬ ni 7 = 3 by decide), if_neg (show ¬ ni 7 = 4 by decide), if_neg (show ¬ ni 7 = 5 by decide), if_neg (show ¬ ni 7 = 6 by decide)]
            refine sc_lay (r := r) (cc := wN w 0) (d := d + 35) hp h30 h31 hr w0' gR m5 (cc0.trans w0) ?_
            rw [eb]
            cases hm : mCl (I 2) n (wN w 0) e with
            | inl e' =>
              rw [hm] at kk
              exact kf _ _ _ (fun I' J' k => am_back (v23_160 hp ⟨Or.inl rfl, k⟩)) (fun I' J' k => am_back (v23_160 hp ⟨Or.inr rfl, k⟩)) kk
            | inr z =>
              rw [hm] at kk
              intro I' g1 g3 g4
              obtain ⟨r1, r2⟩ := cG.lay hG1 hx1 hW hr g3 g4
              exact am_back (v23_160 hp ⟨Or.inr rfl, kk _ _ g1 (gI.bf.trans (fun o k' f1 f2 f3 => g4 o k' f1 (by omega))) cJr.rfl' r1 r2⟩)
  · rw [if_pos rfl]
    have e0 : mNE (I 2) n a = rsk (I 2) n a := by unfold mNE; omega
    rw [e0, if_pos kdN_0] at kk
    have e1 : ltF (I 2) (n - rsk (I 2) n a) (rsk (I 2) n a) = rsk (I 2) n a := by omega
    rw [e1]
    exact (kk (by show rsk (I 2) n a ≤ 600; omega)).1 _ _ (cFF.fail ((cRd.rfl'.u (by omega)).u (by omega)).fr cJr.rfl' (by rw [am_u_nq (by omega), am_u_nq (by omega)]; exact h5))
end CG5
