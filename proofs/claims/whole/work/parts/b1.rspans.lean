/-! Spans: the reference's answer -/
section SPR
variable {P : am_O → Prop} {J : am_J} {Pf : am_R} {T : TX} {w : Nat → Int32} {E : TX → Int32 → Bool × TX × Int32}
theorem sr_spanq (hEk : ∀ U z1, txOK U → txOK (E U z1).2.1) (hE : ∀ U z1, yrD U (dV (dS z1) 4) (dS z1) = E U z1) (hp : am_PF Pf) (hG : WG w) (hs : sndW w) {I : am_I} (hQ : rQ I w T) {D : Nat} (hD : 120 ≤ D) {x1 x2 x3 x4 x5 : Int32} (kk : rA P J Pf w T I cd1 (qSp (aSp E w T) x1 x2 x3 x4 x5)) : am_mth D 320 [.ref 163, .int x1, .int x2, .int x3, .int x4, .int x5] (am_SH, I, J, Pf) P := by
  obtain ⟨D', rfl⟩ : ∃ D', D = D' + 10 := ⟨D - 10, by omega⟩
  have h24 := hQ.2.2.1.2.1
  have hTo := hQ.2.2.2.1
  refine am_mth_of rfl rfl (v320_0 hp ?_)
  by_cases c1 : x2 < 1
  · rw [if_pos c1]
    rw [qSp_f (fun z => inB_lo (by omega) c1 z.1)] at kk
    exact kk
  rw [if_neg c1]
  by_cases c2 : (4 : Int32) < x2
  · rw [if_pos c2]
    rw [qSp_f (fun z => inB_hi (b := 4) (by omega) c2 z.1)] at kk
    exact kk
  rw [if_neg c2]
  by_cases c3 : x3 < 1
  · rw [if_pos c3]
    rw [qSp_f (fun z => inB_lo (by omega) c3 z.2.1)] at kk
    exact kk
  rw [if_neg c3]
  by_cases c4 : (24 : Int32) < x3
  · rw [if_pos c4]
    rw [qSp_f (fun z => inB_hi (b := 24) (by omega) c4 z.2.1)] at kk
    exact kk
  rw [if_neg c4]
  by_cases c5 : x4 < 0
  · rw [if_pos c5]
    rw [qSp_f (fun z => inW_lo (by omega) c5 z.2.2.1)] at kk
    exact kk
  rw [if_neg c5]
  by_cases c6 : (2 : Int32) < x4
  · rw [if_pos c6]
    rw [qSp_f (fun z => inW_hi (n := 2) (by omega) c6 z.2.2.1)] at kk
    exact kk
  rw [if_neg c6]
  by_cases c7 : x5 < 0
  · rw [if_pos c7]
    rw [qSp_f (fun z => inW_lo (by omega) c7 z.2.2.2)] at kk
    exact kk
  rw [if_neg c7]
  by_cases c8 : (7 : Int32) < x5
  · rw [if_pos c8]
    rw [qSp_f (fun z => inW_hi (n := 7) (by omega) c8 z.2.2.2)] at kk
    exact kk
  rw [if_neg c8]
  obtain ⟨m, hm, hm1, hm4⟩ := inB_of (b := 4) (by omega) c1 c2
  obtain ⟨n, hn, hn1, hn24⟩ := inB_of (b := 24) (by omega) c3 c4
  obtain ⟨c, hc, hc2⟩ := inW_of (n := 2) (by omega) c5 c6
  obtain ⟨s, hs1, hs7⟩ := inW_of (n := 7) (by omega) c7 c8
  subst hm hn hc hs1
  rw [qSp_t hm1 hm4 hn1 hn24 hc2 hs7] at kk
  have LP : ∀ (y k : Nat) (I1 : am_I) (f : Nat) (l10 : Option Value), m - k = y → k ≤ m → rQ I1 w T → rQf I I1 → I1 163 0 = 0 → (c = 2 → f = spC E w T x1 n s k) → am_go none (D' + 9) 320 (70, [some (.ref 163), some (.int x1), some (.int (ni m)), some (.int (ni n)), some (.int (ni c)), some (.int (ni s)), some (.int (if k = 0 then -1 else ni (spL E w T x1 n k))), some (.int (ni (spG E w T x1 n k))), some (.int (ni f)), some (.int (ni k)), l10], [], (am_SH, I1, J, Pf), 0, 0) P := by
    intro y
    induction y with
    | zero =>
      intro k I1 f l10 hy hk g1 g2 g3 hf
      obtain rfl : k = m := by omega
      have hkk := kk I1 g1 g2 g3
      unfold aSp at hkk
      refine v320_70 hp ?_
      rw [if_pos ((ni_le (by omega) (by omega)).mpr (Nat.le_refl _)), if_neg (show ¬ k = 0 by omega)]
      have ec : c = 0 ∨ c = 1 ∨ c = 2 := by omega
      rcases ec with rfl | rfl | rfl
      · rw [if_neg (by decide), if_pos rfl] at hkk
        rw [if_pos (by decide)]; exact hkk
      · rw [if_neg (by decide), if_neg (by decide)] at hkk
        rw [if_neg (by decide), if_pos (by decide)]; exact hkk
      · rw [if_pos rfl] at hkk
        rw [if_neg (by decide), if_neg (by decide), hf rfl]; exact hkk
    | succ y ih =>
      intro k I1 f l10 hy hk g1 g2 g3 hf
      have l1 := spL_le (E := E) (w := w) (T := T) (z := x1) (n := n) k
      have l2 := spG_le hEk (w := w) hTo (z := x1) (n := n) k
      have hok := yrS_ok hEk (w := w) (z := x1 + ni k) hTo n
      have hLn := hok.1
      refine v320_70 hp ?_
      rw [if_neg (fun z => absurd ((ni_le (by omega) (by omega)).mp z) (by omega))]
      refine sr_take (d := D' + 7) hp g1.2.2.1 (fun I0 b1 b2' => am_back (v320_80 hp ?_))
      have hQ0 : rQ (am_u I0 163 62 (x1 + ni k)) w T := g1.of (fun o y ho => by rw [am_u_nq (by omega)]; exact b2' o y (by omega))
      have hf0 : rQf I (am_u I0 163 62 (x1 + ni k)) := g2.trans (fun o k e1 e2 e3 e4 => by rw [am_u_nq (by omega), b2' o k e2])
      have h00 : (am_u I0 163 62 (x1 + ni k)) 163 0 = 0 := by rw [am_u_nq (by omega), b2' _ _ (by omega)]; exact g3
      -- behind the edits
      have FIN : ∀ I2, rTx 181 I2 (yrS E w T (x1 + ni k) n).1 → rQ I2 w T → rQf I I2 → I2 163 0 = 0 → am_go none (D' + 9) 320 (91, [some (.ref 163), some (.int x1), some (.int (ni m)), some (.int (ni n)), some (.int (ni c)), some (.int (ni s)), some (.int (if k = 0 then -1 else ni (spL E w T x1 n k))), some (.int (ni (spG E w T x1 n k))), some (.int (ni f)), some (.int (ni k)), some (.int (ni n))], [], (am_SH, I2, J, Pf), 0, 0) P := by
        intro I2 a1 hQ2 hf2 h02
        refine v320_91 hp ?_
        rw [if_pos ((ni_le (by omega) (by omega)).mpr (Nat.le_refl _)), a1.1, ni_p1]
        have nx : ∀ (l : Int32) (g : Nat), l = ni (spL E w T x1 n (k + 1)) → g = spG E w T x1 n (k + 1) → (if ni c = 2 then am_mth (D' + 9) 272 [.ref 163] (am_SH, I2, J, Pf) (am_af none (D' + 9) 320 171 [some (.ref 163), some (.int x1), some (.int (ni m)), some (.int (ni n)), some (.int (ni c)), some (.int (ni s)), some (.int l), some (.int (ni g)), some (.int (ni f)), some (.int (ni k)), some (.int (ni n))] [.ref 163, .int (ni f)] [.int (ni f)] (am_SH, I2, J, Pf) 0 0 true P) else am_go none (D' + 9) 320 (70, [some (.ref 163), some (.int x1), some (.int (ni m)), some (.int (ni n)), some (.int (ni c)), some (.int (ni s)), some (.int l), some (.int (ni g)), some (.int (ni f)), some (.int (ni (k + 1))), some (.int (ni n))], [], (am_SH, I2, J, Pf), 0, 0) P) := by
          intro l g hl hg
          have ih' := fun I3 f l10 => ih (k + 1) I3 f l10 (by omega) (by omega)
          rw [if_neg (show ¬ k + 1 = 0 by omega)] at ih'
          by_cases c2 : c = 2
          · subst c2
            rw [if_pos (by decide)]
            refine sr_sortsnow hp hG hs hQ2 a1 hok (by omega) (fun I3 v q1 q2 q3 => am_back (v320_174 hp ?_))
            have hf3 : rQf I I3 := hf2.trans (fun o k e1 e2 e3 e4 => q3 o k (by omega) (by omega))
            have h03 : I3 163 0 = 0 := by rw [q3 _ _ (by omega) (by omega)]; exact h02
            have eC : spC E w T x1 n s (k + 1) = spC E w T x1 n s k + (if 0 < HHx w 3 (yrS E w T (x1 + ni k) n).1 s 0 (yrS E w T (x1 + ni k) n).1.1 then 1 else 0) := rfl
            rw [ni_p1, hl, hg]
            by_cases c0 : 0 < HHx w 3 (yrS E w T (x1 + ni k) n).1 s 0 (yrS E w T (x1 + ni k) n).1.1
            · rw [(bts_sh q2 (show s < 32 by omega)).mpr ⟨by omega, c0⟩, ni_p1]
              exact ih' I3 (f + 1) _ q1 hf3 h03 (fun _ => by rw [eC, if_pos c0, hf rfl])
            · rw [(bts_s0 q2 (show s < 32 by omega)).mpr (fun z => c0 z.2), Int32.add_zero]
              exact ih' I3 f _ q1 hf3 h03 (fun _ => by rw [eC, if_neg c0, hf rfl, Nat.add_zero])
          · rw [if_neg (fun z => c2 ((leq 2 (by omega) (by omega)).mp z)), hl, hg]
            exact ih' I2 f _ hQ2 hf2 h02 (fun z => absurd z c2)
        have eG : spG E w T x1 n (k + 1) = if spG E w T x1 n k < (yrS E w T (x1 + ni k) n).1.1 then (yrS E w T (x1 + ni k) n).1.1 else spG E w T x1 n k := rfl
        have eL : spL E w T x1 n (k + 1) = if (yrS E w T (x1 + ni k) n).1.1 < spL E w T x1 n k then (yrS E w T (x1 + ni k) n).1.1 else spL E w T x1 n k := rfl
        have G : ∀ (l : Int32), l = ni (spL E w T x1 n (k + 1)) → (if ni (yrS E w T (x1 + ni k) n).1.1 ≤ ni (spG E w T x1 n k) then (if ni c = 2 then am_mth (D' + 9) 272 [.ref 163] (am_SH, I2, J, Pf) (am_af none (D' + 9) 320 171 [some (.ref 163), some (.int x1), some (.int (ni m)), some (.int (ni n)), some (.int (ni c)), some (.int (ni s)), some (.int l), some (.int (ni (spG E w T x1 n k))), some (.int (ni f)), some (.int (ni k)), some (.int (ni n))] [.ref 163, .int (ni f)] [.int (ni f)] (am_SH, I2, J, Pf) 0 0 true P) else am_go none (D' + 9) 320 (70, [some (.ref 163), some (.int x1), some (.int (ni m)), some (.int (ni n)), some (.int (ni c)), some (.int (ni s)), some (.int l), some (.int (ni (spG E w T x1 n k))), some (.int (ni f)), some (.int (ni (k + 1))), some (.int (ni n))], [], (am_SH, I2, J, Pf), 0, 0) P) else (if ni c = 2 then am_mth (D' + 9) 272 [.ref 163] (am_SH, I2, J, Pf) (am_af none (D' + 9) 320 171 [some (.ref 163), some (.int x1), some (.int (ni m)), some (.int (ni n)), some (.int (ni c)), some (.int (ni s)), some (.int l), some (.int (ni (yrS E w T (x1 + ni k) n).1.1)), some (.int (ni f)), some (.int (ni k)), some (.int (ni n))] [.ref 163, .int (ni f)] [.int (ni f)] (am_SH, I2, J, Pf) 0 0 true P) else am_go none (D' + 9) 320 (70, [some (.ref 163), some (.int x1), some (.int (ni m)), some (.int (ni n)), some (.int (ni c)), some (.int (ni s)), some (.int l), some (.int (ni (yrS E w T (x1 + ni k) n).1.1)), some (.int (ni f)), some (.int (ni (k + 1))), some (.int (ni n))], [], (am_SH, I2, J, Pf), 0, 0) P)) := by
          intro l hl
          by_cases cg : spG E w T x1 n k < (yrS E w T (x1 + ni k) n).1.1
          · rw [if_pos cg] at eG
            rw [if_neg (fun z => absurd ((ni_le (by omega) (by omega)).mp z) (by omega))]
            exact nx _ _ hl eG.symm
          · rw [if_neg cg] at eG
            rw [if_pos ((ni_le (by omega) (by omega)).mpr (by omega))]
            exact nx _ _ hl eG.symm
        by_cases ck : k = 0
        · subst ck
          rw [if_pos rfl, if_pos rfl]
          refine G _ ?_
          rw [eL, show spL E w T x1 n 0 = 24 from rfl]
          split
          · rfl
          · congr 1; omega
        · rw [if_neg ck, if_neg (ni_neg1 (by omega))]
          by_cases cl : (yrS E w T (x1 + ni k) n).1.1 < spL E w T x1 n k
          · rw [if_pos cl] at eL
            rw [if_neg (fun z => absurd ((ni_le (by omega) (by omega)).mp z) (by omega))]
            exact G _ (by rw [eL])
          · rw [if_neg cl] at eL
            rw [if_pos ((ni_le (by omega) (by omega)).mpr (by omega))]
            exact G _ (by rw [eL])
      have LE : ∀ (y i : Nat) (I2 : am_I), n - i = y → i ≤ n → rTx 181 I2 (yrS E w T (x1 + ni k) i).1 → I2 163 62 = (yrS E w T (x1 + ni k) i).2.1 → rQ I2 w T → rQf I I2 → I2 163 0 = 0 → am_go none (D' + 9) 320 (91, [some (.ref 163), some (.int x1), some (.int (ni m)), some (.int (ni n)), some (.int (ni c)), some (.int (ni s)), some (.int (if k = 0 then -1 else ni (spL E w T x1 n k))), some (.int (ni (spG E w T x1 n k))), some (.int (ni f)), some (.int (ni k)), some (.int (ni i))], [], (am_SH, I2, J, Pf), 0, 0) P := by
        intro y
        induction y with
        | zero =>
          intro i I2 hy2 hi a1 a2 a3 a4 a5
          obtain rfl : i = n := by omega
          exact FIN I2 a1 a3 a4 a5
        | succ y ihE =>
          intro i I2 hy2 hi a1 a2 a3 a4 a5
          have nxt := fun I' => ihE (i + 1) I' (by omega) (by omega)
          rw [show yrS E w T (x1 + ni k) (i + 1) = yrN E w (yrS E w T (x1 + ni k) i) from rfl] at nxt
          generalize yrS E w T (x1 + ni k) i = q at nxt a1 a2
          obtain ⟨U, z1, rf, ft⟩ := q
          have hN : yrN E w (U, z1, rf, ft) = ((E U z1).2.1, (E U z1).2.2, rf + (if (E U z1).1 = true then 0 else 1), ft + (if 0 < HHx w 3 (E U z1).2.1 0 0 (E U z1).2.1.1 then 1 else 0)) := rfl
          rw [hN] at nxt
          dsimp only at nxt a1 a2
          refine v320_91 hp ?_
          rw [if_neg (fun z => absurd ((ni_le (by omega) (by omega)).mp z) (by omega))]
          refine sr_edit (d := D' + 6) hp a2 a1 (fun I3 d1 d2 d3 => am_back (v320_101 hp ?_))
          rw [hE] at d1 d2
          rw [ni_p1]
          exact nxt I3 d1 d2 (a3.ofY d3) (a4.trans d3.z.q) (by rw [d3 _ _ (by omega) (by omega) (by omega)]; exact a5)
      rw [show (0 : Int32) = ni 0 from rfl]
      exact LE n 0 _ rfl (Nat.zero_le _) ⟨by rw [am_u_nq (by omega)]; exact b1.1, h24, fun i hi => by rw [am_u_nq (by omega)]; exact b1.2.2 i hi⟩ am_u_same hQ0 hf0 h00
  exact LP m 0 _ 0 _ rfl (Nat.zero_le _) hQ.z (fun o k e1 e2 e3 e4 => am_u_nq (by omega)) am_u_same (fun _ => rfl)
end SPR
