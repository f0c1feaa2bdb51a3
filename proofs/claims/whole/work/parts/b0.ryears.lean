/-! Years and spans: the reference's answers -/
theorem ins1 {T : TX} {p : Nat} {g : Nat → Int32} {v : Int32} (h : g 0 = v) : txIns T p 1 g = txIns T p 1 (fun _ => v) := by
  unfold txIns
  congr 1
  funext i
  by_cases c : i < p
  · rw [if_pos c, if_pos c]
  · rw [if_neg c, if_neg c]
    by_cases c2 : i < p + 1
    · rw [if_pos c2, if_pos c2, show i - p = 0 by omega, h]
    · rw [if_neg c2, if_neg c2]
section YRR
variable {P : am_O → Prop} {J : am_J} {Pf : am_R} {T : TX} {w : Nat → Int32} {E : TX → Int32 → Bool × TX × Int32}
/-- what an edit changes -/
def rYf (I I' : am_I) : Prop := ∀ o k, ¬ (o = 163 ∧ k = 62) → o ≠ 181 → o ≠ 200 → I' o k = I o k
theorem sr_edit (hp : am_PF Pf) {I : am_I} {z : Int32} (hz : I 163 62 = z) (hT : rTx 181 I T) {d : Nat} (kk : ∀ I', rTx 181 I' (yrD T (dV (dS z) 4) (dS z)).2.1 → I' 163 62 = (yrD T (dV (dS z) 4) (dS z)).2.2 → rYf I I' → P (.inl (some (.int (b2 (yrD T (dV (dS z) 4) (dS z)).1))), (am_SH, I', J, Pf), 0, 0)) : am_mth (d + 3) 317 [.ref 163] (am_SH, I, J, Pf) P := by
  have h24 := hT.2.1
  refine am_mth_of rfl rfl (v317_0 hp ?_)
  rw [hz, show z * 1103515245 + 12345 = dS z from rfl, show dS z * 1103515245 + 12345 = dS (dS z) from rfl, show dS (dS z) * 1103515245 + 12345 = dS (dS (dS z)) from rfl, rdr4]
  have h4 := dV_lt (dS z) (n := 4) (by omega)
  generalize dV (dS z) 4 = how at h4 kk ⊢
  have h1 := dV_lt (dS (dS z)) (n := T.1 + 1) (by omega)
  unfold yrD at kk
  by_cases g2 : 2 ≤ how
  · rw [if_pos ((gle 2 (by omega) (by omega)).mpr g2)]
    by_cases e2 : how = 2
    · subst e2
      rw [if_neg (by decide), if_pos rfl] at kk
      rw [if_pos (by decide), hT.1, ni_p1, rdr _ (show T.1 + 1 < 1000 by omega)]
      refine ⟨fun z => absurd ((leq 0 (by omega) (by omega)).mp z) (by omega), ?_⟩
      have hTu : rTx 181 (am_u (am_u I 163 62 (dS z)) 163 62 (dS (dS z))) T := ⟨by rw [am_u_nq (by omega), am_u_nq (by omega)]; exact hT.1, h24, fun i hi => by rw [am_u_nq (by omega), am_u_nq (by omega)]; exact hT.2.2 i hi⟩
      refine sr_cut (d := d + 1) (La := 25) (k := 1) hp rfl (by omega) (by omega) hTu (show dV (dS (dS z)) (T.1 + 1) < 100 by omega) (by omega) ?_
      by_cases c : dV (dS (dS z)) (T.1 + 1) + 1 ≤ T.1
      · rw [if_pos c] at kk
        rw [if_pos ⟨Nat.le_refl _, c⟩]
        intro I2 q1 q2
        refine am_back (v317_91 hp ⟨Or.inr rfl, kk I2 q1 ?_ (fun o k a1 a2 a3 => ?_)⟩)
        · rw [q2 _ _ (by omega)]; exact am_u_same
        · rw [q2 _ _ a2, am_u_nq a1, am_u_nq a1]
      · rw [if_neg c] at kk
        rw [if_neg (fun z => c z.2)]
        exact am_back (v317_91 hp ⟨Or.inl rfl, kk _ hTu am_u_same (fun o k a1 a2 a3 => by rw [am_u_nq a1, am_u_nq a1])⟩)
    · have e3 : how = 3 := by omega
      subst e3
      rw [if_pos rfl] at kk
      rw [if_neg (by decide), rdr24, rdr24]
      have h2 := dV_lt (dS (dS z)) (n := 24) (by omega)
      have h3 := dV_lt (dS (dS (dS z))) (n := 24) (by omega)
      have hTu : rTx 181 (am_u (am_u (am_u I 163 62 (dS z)) 163 62 (dS (dS z))) 163 62 (dS (dS (dS z)))) T := ⟨by rw [am_u_nq (by omega), am_u_nq (by omega), am_u_nq (by omega)]; exact hT.1, h24, fun i hi => by rw [am_u_nq (by omega), am_u_nq (by omega), am_u_nq (by omega)]; exact hT.2.2 i hi⟩
      refine sr_swap (d := d + 1) (La := 25) hp rfl (by omega) (by omega) hTu (show dV (dS (dS z)) 24 < 100 by omega) (show dV (dS (dS (dS z))) 24 < 100 by omega) ?_
      split
      · rename_i c
        rw [if_pos c] at kk
        intro I2 q1 q2
        refine am_back (v317_108 hp ⟨Or.inr rfl, kk I2 q1 ?_ (fun o k a1 a2 a3 => ?_)⟩)
        · rw [q2 _ _ (by omega)]; exact am_u_same
        · rw [q2 _ _ a2, am_u_nq a1, am_u_nq a1, am_u_nq a1]
      · rename_i c
        rw [if_neg c] at kk
        exact am_back (v317_108 hp ⟨Or.inl rfl, kk _ hTu am_u_same (fun o k a1 a2 a3 => by rw [am_u_nq a1, am_u_nq a1, am_u_nq a1])⟩)
  · rw [if_neg (fun z => g2 ((gle 2 (by omega) (by omega)).mp z)), hT.1, ni_p1, rdr _ (show T.1 + 1 < 1000 by omega), rdr95, show (32 : Int32) + ni (dV (dS (dS (dS z))) 95) = ni (32 + dV (dS (dS (dS z))) 95) from ni_add 32 _]
    rw [if_neg (by omega), if_neg (by omega)] at kk
    refine ⟨fun z => absurd ((leq 0 (by omega) (by omega)).mp z) (by omega), ?_⟩
    have hTu : rTx 181 (am_u (am_u (am_u (am_u I 163 62 (dS z)) 163 62 (dS (dS z))) 163 62 (dS (dS (dS z)))) 200 0 (ni (32 + dV (dS (dS (dS z))) 95))) T := ⟨by rw [am_u_nq (by omega), am_u_nq (by omega), am_u_nq (by omega), am_u_nq (by omega)]; exact hT.1, h24, fun i hi => by rw [am_u_nq (by omega), am_u_nq (by omega), am_u_nq (by omega), am_u_nq (by omega)]; exact hT.2.2 i hi⟩
    refine sr_types (d := d + 1) (La := 25) (y := 200) (Ly := 1) (q := 0) (k := 1) hp rfl (by omega) (by omega) rfl (by omega) (by omega) hTu (show dV (dS (dS z)) (T.1 + 1) < 100 by omega) (by omega) (by omega) (by omega) ?_
    by_cases c : T.1 + 1 ≤ 24
    · rw [if_pos c] at kk
      rw [if_pos ⟨by omega, c⟩]
      intro I2 q1 q2
      have e := ins1 (T := T) (p := dV (dS (dS z)) (T.1 + 1)) (g := fun i => (am_u (am_u (am_u (am_u I 163 62 (dS z)) 163 62 (dS (dS z))) 163 62 (dS (dS (dS z)))) 200 0 (ni (32 + dV (dS (dS (dS z))) 95))) 200 (0 + i)) (v := ni (32 + dV (dS (dS (dS z))) 95)) am_u_same
      rw [e] at q1
      refine am_back (v317_53 hp ⟨Or.inr rfl, kk I2 q1 ?_ (fun o k a1 a2 a3 => ?_)⟩)
      · rw [q2 _ _ (by omega), am_u_nq (by omega)]; exact am_u_same
      · rw [q2 _ _ a2, am_u_nq (by omega), am_u_nq a1, am_u_nq a1, am_u_nq a1]
    · rw [if_neg c] at kk
      rw [if_neg (fun z => c z.2)]
      exact am_back (v317_53 hp ⟨Or.inl rfl, kk _ hTu (by rw [am_u_nq (by omega)]; exact am_u_same) (fun o k a1 a2 a3 => by rw [am_u_nq (by omega), am_u_nq a1, am_u_nq a1, am_u_nq a1])⟩)
theorem bts_a1 {v : Int32} {Q : Nat → Prop} (h : bts v Q) : (Q 0 → v &&& 1 = 1) ∧ (¬ Q 0 → v &&& 1 = 0) := by
  have e : bI (v &&& 1) 0 = bI v 0 := by
    rw [bI_and, show bI 1 0 = true from by decide, Bool.and_true]
  constructor
  · intro q
    rcases and1 v with z | z
    · rw [z, bI_0] at e
      have := (h 0 (by omega)).mpr q
      rw [← e] at this; cases this
    · exact z
  · intro q
    rcases and1 v with z | z
    · exact z
    · rw [z, show bI 1 0 = true from by decide] at e
      exact absurd ((h 0 (by omega)).mp e.symm) q
/-- what a year changes -/
def rZf (I I' : am_I) : Prop := ∀ o k, ¬ (o = 163 ∧ (k = 46 ∨ k = 48 ∨ k = 62)) → o ≠ 181 → ¬ (183 ≤ o ∧ o ≤ 189) → o ≠ 200 → I' o k = I o k
theorem rZf.trans {I I' I'' : am_I} (h : rZf I I') (g : rZf I' I'') : rZf I I'' := fun o k e1 e2 e3 e4 => (g o k e1 e2 e3 e4).trans (h o k e1 e2 e3 e4)
theorem rYf.z {I I' : am_I} (h : rYf I I') : rZf I I' := fun o k e1 e2 e3 e4 => h o k (by omega) e2 e4
theorem rZf.q {I I' : am_I} (h : rZf I I') : rQf I I' := fun o k e1 e2 e3 e4 => h o k (by omega) e2 (by omega) (by omega)
theorem rQ.ofY {I I' : am_I} (h : rQ I w T) (f : rYf I I') : rQ I' w T := h.of (fun o y ho => f o y (by omega) (by omega) (by omega))
theorem sr_yearq (hEk : ∀ U z1, txOK U → txOK (E U z1).2.1) (hE : ∀ U z1, yrD U (dV (dS z1) 4) (dS z1) = E U z1) (hp : am_PF Pf) (hG : WG w) (hs : sndW w) {I : am_I} (hQ : rQ I w T) {D : Nat} (hD : 120 ≤ D) {x1 x2 x3 : Int32} (kk : rA P J Pf w T I cd1 (qYr (aYr E w T) x1 x2 x3)) : am_mth D 319 [.ref 163, .int x1, .int x2, .int x3] (am_SH, I, J, Pf) P := by
  obtain ⟨D', rfl⟩ : ∃ D', D = D' + 10 := ⟨D - 10, by omega⟩
  have h24 := hQ.2.2.1.2.1
  have hTo := hQ.2.2.2.1
  refine am_mth_of rfl rfl (v319_0 hp ?_)
  by_cases c1 : x2 < 1
  · rw [if_pos c1]
    rw [qYr_f (fun z => inB_lo (by omega) c1 z.1)] at kk
    exact kk
  rw [if_neg c1]
  by_cases c2 : (24 : Int32) < x2
  · rw [if_pos c2]
    rw [qYr_f (fun z => inB_hi (b := 24) (by omega) c2 z.1)] at kk
    exact kk
  rw [if_neg c2]
  by_cases c3 : x3 < 0
  · rw [if_pos c3]
    rw [qYr_f (fun z => inW_lo (by omega) c3 z.2)] at kk
    exact kk
  rw [if_neg c3]
  by_cases c4 : (3 : Int32) < x3
  · rw [if_pos c4]
    rw [qYr_f (fun z => inW_hi (n := 3) (by omega) c4 z.2)] at kk
    exact kk
  rw [if_neg c4]
  obtain ⟨n, hn, hn1, hn24⟩ := inB_of (b := 24) (by omega) c1 c2
  obtain ⟨c, hc, hc3⟩ := inW_of (n := 3) (by omega) c3 c4
  subst hn hc
  rw [qYr_t hn1 hn24 hc3] at kk
  refine sr_take (d := D' + 7) hp hQ.z.2.2.1 (fun I0 b1 b2' => am_back (v319_41 hp ?_))
  have hQ0 : rQ (am_u I0 163 62 x1) w T := hQ.z.of (fun o y ho => by rw [am_u_nq (by omega)]; exact b2' o y (by omega))
  have hf0 : rQf I (am_u I0 163 62 x1) := fun o k e1 e2 e3 e4 => by rw [am_u_nq (by omega), b2' o k e2, am_u_nq (by omega)]
  have h00 : (am_u I0 163 62 x1) 163 0 = 0 := by rw [am_u_nq (by omega), b2' _ _ (by omega)]; exact am_u_same
  have LP : ∀ (m i : Nat) (I1 : am_I) (l1 : Option Value) (f : Nat), n - i = m → i ≤ n → rTx 181 I1 (yrS E w T x1 i).1 → I1 163 62 = (yrS E w T x1 i).2.1 → rQ I1 w T → rQf I I1 → I1 163 0 = 0 → (c = 3 → f = (yrS E w T x1 i).2.2.2) → am_go none (D' + 9) 319 (55, [some (.ref 163), l1, some (.int (ni n)), some (.int (ni c)), some (.int (ni (yrS E w T x1 i).2.2.1)), some (.int (ni f)), some (.int (ni i))], [], (am_SH, I1, J, Pf), 0, 0) P := by
    intro m
    induction m with
    | zero =>
      intro i I1 l1 f hm hi g1 g2 g3 g4 g5 hf
      obtain rfl : i = n := by omega
      have hle := yrS_le (E := E) (w := w) (T := T) (z := x1) i
      have hok := yrS_ok hEk (w := w) (z := x1) hTo i
      have hkk := kk I1 g3 g4 g5
      unfold aYr at hkk
      refine v319_55 hp ?_
      rw [if_pos ((ni_le (by omega) (by omega)).mpr (Nat.le_refl _))]
      have ec : c = 0 ∨ c = 1 ∨ c = 2 ∨ c = 3 := by omega
      rcases ec with rfl | rfl | rfl | rfl
      · rw [if_pos rfl] at hkk
        rw [if_pos (by decide), g1.1]; exact hkk
      · rw [if_neg (by decide), if_pos (by decide)]
        refine sr_sortsnow hp hG hs g3 g1 hok (by omega) (fun I2 v q1 q2 q3 => am_back (v319_122 hp ?_))
        have hkk := kk I2 q1 (g4.trans (fun o k e1 e2 e3 e4 => q3 o k (by omega) (by omega))) (by rw [q3 _ _ (by omega) (by omega)]; exact g5)
        unfold aYr at hkk
        rw [if_neg (by decide), if_pos rfl, bsV_eq q2] at hkk
        exact hkk
      · rw [if_neg (by decide), if_neg (by decide), if_pos rfl] at hkk
        rw [if_neg (by decide), if_neg (by decide), if_pos (by decide)]; exact hkk
      · rw [if_neg (by decide), if_neg (by decide), if_neg (by decide)] at hkk
        rw [if_neg (by decide), if_neg (by decide), if_neg (by decide), hf rfl]; exact hkk
    | succ m ih =>
      intro i I1 l1 f hm hi g1 g2 g3 g4 g5 hf
      have hle := yrS_le (E := E) (w := w) (T := T) (z := x1) i
      have hTi := yrS_ok hEk (w := w) (z := x1) hTo i
      have nxt := fun I' l1 f => ih (i + 1) I' l1 f (by omega) (by omega)
      rw [show yrS E w T x1 (i + 1) = yrN E w (yrS E w T x1 i) from rfl] at nxt
      generalize yrS E w T x1 i = s at hle hTi nxt g1 g2 hf
      obtain ⟨U, z1, rf, ft⟩ := s
      have hN : yrN E w (U, z1, rf, ft) = ((E U z1).2.1, (E U z1).2.2, rf + (if (E U z1).1 = true then 0 else 1), ft + (if 0 < HHx w 3 (E U z1).2.1 0 0 (E U z1).2.1.1 then 1 else 0)) := rfl
      rw [hN] at nxt
      dsimp only at hle hTi nxt g1 g2 hf ⊢
      have hTe : txOK (E U z1).2.1 := hEk _ _ hTi
      refine v319_55 hp ?_
      rw [if_neg (fun z => absurd ((ni_le (by omega) (by omega)).mp z) (by omega))]
      refine sr_edit (d := D' + 6) hp g2 g1 (fun I2 a1 a2 a3 => am_back (v319_67 hp ?_))
      rw [hE] at a1 a2
      rw [hE]
      have hQ2 : rQ I2 w T := g3.ofY a3
      have hf2 : rQf I I2 := g4.trans a3.z.q
      have h02 : I2 163 0 = 0 := by rw [a3 _ _ (by omega) (by omega) (by omega)]; exact g5
      generalize E U z1 = e at hTe a1 a2 nxt ⊢
      obtain ⟨eb, V, z2⟩ := e
      dsimp only at hTe a1 a2 nxt ⊢
      have nx : ∀ (rf2 : Nat), rf2 = rf + (if eb = true then 0 else 1) → (if ni c = 3 then am_mth (D' + 9) 272 [.ref 163] (am_SH, I2, J, Pf) (am_af none (D' + 9) 319 86 [some (.ref 163), l1, some (.int (ni n)), some (.int (ni c)), some (.int (ni rf2)), some (.int (ni f)), some (.int (ni i))] [.ref 163, .int (ni f)] [.int (ni f)] (am_SH, I2, J, Pf) 0 0 true P) else am_go none (D' + 9) 319 (55, [some (.ref 163), l1, some (.int (ni n)), some (.int (ni c)), some (.int (ni rf2)), some (.int (ni f)), some (.int (ni i + 1))], [], (am_SH, I2, J, Pf), 0, 0) P) := by
        intro rf2 hrf
        rw [← hrf] at nxt
        by_cases c3 : c = 3
        · subst c3
          rw [if_pos (by decide)]
          refine sr_sortsnow hp hG hs hQ2 a1 hTe (by omega) (fun I3 v q1 q2 q3 => am_back (v319_89 hp ?_))
          have g1' : rTx 181 I3 V := ⟨by rw [q3 _ _ (by omega) (by omega)]; exact a1.1, a1.2.1, fun i hi => by rw [q3 _ _ (by omega) (by omega)]; exact a1.2.2 i hi⟩
          have hf' := hf rfl
          rw [ni_p1]
          by_cases c0 : 0 < HHx w 3 V 0 0 V.1
          · rw [if_pos c0] at nxt
            rw [(bts_a1 q2).1 ⟨by omega, c0⟩, ni_p1]
            exact nxt I3 _ (f + 1) g1' (by rw [q3 _ _ (by omega) (by omega)]; exact a2) q1 (hf2.trans (fun o k e1 e2 e3 e4 => q3 o k (by omega) (by omega))) (by rw [q3 _ _ (by omega) (by omega)]; exact h02) (fun _ => by rw [hf'])
          · rw [if_neg c0] at nxt
            rw [(bts_a1 q2).2 (fun z => c0 z.2), Int32.add_zero]
            exact nxt I3 _ f g1' (by rw [q3 _ _ (by omega) (by omega)]; exact a2) q1 (hf2.trans (fun o k e1 e2 e3 e4 => q3 o k (by omega) (by omega))) (by rw [q3 _ _ (by omega) (by omega)]; exact h02) (fun _ => by rw [hf', Nat.add_zero])
        · rw [if_neg (fun z => c3 ((leq 3 (by omega) (by omega)).mp z)), ni_p1]
          exact nxt I2 _ f a1 a2 hQ2 hf2 h02 (fun z => absurd z c3)
      cases eb with
      | true =>
        rw [show b2 true = 1 from rfl, if_neg (by decide), Int32.add_zero]
        exact nx rf rfl
      | false =>
        rw [show b2 false = 0 from rfl, if_pos rfl, ni_p1]
        exact nx (rf + 1) rfl
  exact LP n 0 _ _ 0 rfl (Nat.zero_le _) ⟨by rw [am_u_nq (by omega)]; exact b1.1, h24, fun i hi => by rw [am_u_nq (by omega)]; exact b1.2.2 i hi⟩ am_u_same hQ0 hf0 h00 (fun _ => rfl)
end YRR
