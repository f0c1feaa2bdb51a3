/-! The reference: the begins -/
def orI (I : am_I) (s : Nat) (x y z : Int32) : am_I := am_u (am_u (am_u I 191 (3 * s) ((I 191 (3 * s)) ||| x)) 191 (3 * s + 1) (((am_u I 191 (3 * s) ((I 191 (3 * s)) ||| x)) 191 (3 * s + 1)) ||| y)) 191 (3 * s + 2) (((am_u (am_u I 191 (3 * s) ((I 191 (3 * s)) ||| x)) 191 (3 * s + 1) (((am_u I 191 (3 * s) ((I 191 (3 * s)) ||| x)) 191 (3 * s + 1)) ||| y)) 191 (3 * s + 2)) ||| z)
theorem orI_o {I : am_I} {s : Nat} {x y z : Int32} {o k : Nat} (h : o ≠ 191) : orI I s x y z o k = I o k := by
  unfold orI
  rw [am_u_nq (by omega), am_u_nq (by omega), am_u_nq (by omega)]
theorem orI_n {I : am_I} {s : Nat} {x y z : Int32} {k : Nat} (h : k ≠ 3 * s ∧ k ≠ 3 * s + 1 ∧ k ≠ 3 * s + 2) : orI I s x y z 191 k = I 191 k := by
  unfold orI
  rw [am_u_nq (by omega), am_u_nq (by omega), am_u_nq (by omega)]
theorem orI_s {I : am_I} {s : Nat} {x y z : Int32} : orI I s x y z 191 (3 * s) = I 191 (3 * s) ||| x ∧ orI I s x y z 191 (3 * s + 1) = I 191 (3 * s + 1) ||| y ∧ orI I s x y z 191 (3 * s + 2) = I 191 (3 * s + 2) ||| z := by
  unfold orI
  refine ⟨?_, ?_, ?_⟩
  · rw [am_u_nq (by omega), am_u_nq (by omega), am_u_same]
  · rw [am_u_nq (by omega), am_u_same, am_u_nq (by omega)]
  · rw [am_u_same, am_u_nq (by omega), am_u_nq (by omega)]
/-- the begins, as they stand in the reference -/
def bgI (I : am_I) (B : Nat → Nat → Bool) : Prop := ∀ s, s < 8 → ∀ k, k < 95 → r3 (I 191 (3 * s)) (I 191 (3 * s + 1)) (I 191 (3 * s + 2)) k = B s k
theorem bgI.set {I I0 : am_I} {B B' : Nat → Nat → Bool} {s : Nat} {x y z : Int32} (h : bgI I B) (h0 : ∀ k, I0 191 k = I 191 k) (hs : s < 8) (e : ∀ a c, a < 8 → c < 95 → B' a c = if a = s then (B s c || r3 x y z c) else B a c) : bgI (orI I0 s x y z) B' := by
  intro a ha k hk
  rw [e a k ha hk]
  by_cases c : a = s
  · subst c
    obtain ⟨q1, q2, q3⟩ := orI_s (I := I0) (s := a) (x := x) (y := y) (z := z)
    rw [q1, q2, q3, if_pos rfl, r3_or, h0, h0, h0, h a ha k hk]
  · rw [orI_n (by omega), orI_n (by omega), orI_n (by omega), if_neg c, h0, h0, h0]; exact h a ha k hk
theorem bgI.o {I I0 : am_I} {B : Nat → Nat → Bool} (h : bgI I B) (h0 : ∀ k, I0 191 k = I 191 k) : bgI I0 B := fun a ha k hk => by rw [h0, h0, h0]; exact h a ha k hk
theorem bI_0one {j k : Nat} (hj : j < 32) (hk : k < 32) : bI ((0 : Int32) ||| ((1 : Int32) <<< (ni j &&& 31))) k = decide (k = j) := by rw [bI_or, bI_0, bI_one hj hk, Bool.false_or]
theorem r3_w0 {cs k : Nat} (h : cs - 32 < 32) (h32 : 32 ≤ cs) (hk : k < 95) : r3 ((0 : Int32) ||| ((1 : Int32) <<< (ni (cs - 32) &&& 31))) 0 0 k = decide (k + 32 = cs) := by
  unfold r3
  split
  · rw [bI_0one (by omega) (by omega)]; exact decide_eq_decide.mpr (by omega)
  · split
    · rw [bI_0, decide_eq_false (by omega)]
    · rw [bI_0, decide_eq_false (by omega)]
theorem r3_w1 {cs k : Nat} (h : 32 ≤ cs - 32) (h2 : cs - 32 < 64) (hk : k < 95) : r3 0 ((0 : Int32) ||| ((1 : Int32) <<< (ni (cs - 32 - 32) &&& 31))) 0 k = decide (k + 32 = cs) := by
  unfold r3
  split
  · rw [bI_0, decide_eq_false (by omega)]
  · split
    · rw [bI_0one (by omega) (by omega)]; exact decide_eq_decide.mpr (by omega)
    · rw [bI_0, decide_eq_false (by omega)]
theorem r3_w2 {cs k : Nat} (h : 64 ≤ cs - 32) (h2 : cs ≤ 126) (hk : k < 95) : r3 0 0 ((0 : Int32) ||| ((1 : Int32) <<< (ni (cs - 32 - 64) &&& 31))) k = decide (k + 32 = cs) := by
  unfold r3
  split
  · rw [bI_0, decide_eq_false (by omega)]
  · split
    · rw [bI_0, decide_eq_false (by omega)]
    · rw [bI_0one (by omega) (by omega)]; exact decide_eq_decide.mpr (by omega)
def orJ (I0 I : am_I) (s : Nat) (x y z : Int32) : am_I := am_u (am_u (am_u I0 191 (3 * s) ((I 191 (3 * s)) ||| x)) 191 (3 * s + 1) (((am_u I0 191 (3 * s) ((I 191 (3 * s)) ||| x)) 191 (3 * s + 1)) ||| y)) 191 (3 * s + 2) (((am_u (am_u I0 191 (3 * s) ((I 191 (3 * s)) ||| x)) 191 (3 * s + 1) (((am_u I0 191 (3 * s) ((I 191 (3 * s)) ||| x)) 191 (3 * s + 1)) ||| y)) 191 (3 * s + 2)) ||| z)
theorem orJ_I {I0 I : am_I} {s : Nat} {x y z : Int32} (h : ∀ k, I0 191 k = I 191 k) : orJ I0 I s x y z = orI I0 s x y z := by
  unfold orJ orI
  rw [h]
def rBg (I I' : am_I) : Prop := ∀ o k, o ≠ 190 → o ≠ 191 → ¬ (o = 163 ∧ 17 ≤ k ∧ k ≤ 19) → I' o k = I o k
theorem rBg.rfl' {I : am_I} : rBg I I := fun _ _ _ _ _ => rfl
theorem rBg.trans {I I' I'' : am_I} (h : rBg I I') (g : rBg I' I'') : rBg I I'' := fun o k e1 e2 e3 => (g o k e1 e2 e3).trans (h o k e1 e2 e3)
section RBG
variable {d0 : Nat} {P : am_O → Prop} {J : am_J} {Pf : am_R} {w : Nat → Int32}
theorem sr_beginsby (hp : am_PF Pf) (hG : WG w) {I : am_I} (hw : I 167 = w) (hE : ∀ t, t < 8 → I 190 t = b2 (emX w 8 t)) {B : Nat → Nat → Bool} (hB : bgI I B) {p : Nat} (hpp : p < wN w 1)
    (kk : ∀ I', bgI I' (bgP w (emX w 8) p B) → rBg I I' → (∀ t, I' 190 t = I 190 t) → P (.inl none, (am_SH, I', J, Pf), 0, 0)) : am_mth (d0 + 4) 282 [.ref 163, .int (ni p)] (am_SH, I, J, Pf) P := by
  have w1' := hG.1.2.1.2
  obtain ⟨g1, g2, g3, g4, g5, g6⟩ := hG.pr (p := p) hpp
  have e32 : (ni (32 + 3 * p)).toNatClampNeg = 32 + 3 * p := ni_nat (by omega)
  have e34 : (ni (32 + 3 * p + 2)).toNatClampNeg = 32 + 3 * p + 2 := ni_nat (by omega)
  have s0 : (ni (3 * wN w (32 + 3 * p))).toNatClampNeg = 3 * wN w (32 + 3 * p) := ni_nat (by omega)
  have s1 : (ni (3 * wN w (32 + 3 * p) + 1)).toNatClampNeg = 3 * wN w (32 + 3 * p) + 1 := ni_nat (by omega)
  have s2 : (ni (3 * wN w (32 + 3 * p) + 2)).toNatClampNeg = 3 * wN w (32 + 3 * p) + 2 := ni_nat (by omega)
  have m3 : ∀ a, (3 : Int32) * ni a = ni (3 * a) := fun a => ni_mul 3 a
  have b0 : am_in (ni (3 * wN w (32 + 3 * p))) 24 = true := ni_in (by omega) (by omega)
  have b1 : am_in (ni (3 * wN w (32 + 3 * p) + 1)) 24 = true := ni_in (by omega) (by omega)
  have b2' : am_in (ni (3 * wN w (32 + 3 * p) + 2)) 24 = true := ni_in (by omega) (by omega)
  have LE : ∀ (m k : Nat) (I1 : am_I) (F : Nat → Nat → Bool) (l4 l5 : Option Value), wN w (32 + 3 * p + 2) - k = m → k ≤ wN w (32 + 3 * p + 2) → rBg I I1 → (∀ t, I1 190 t = I 190 t) → bgI I1 F → (∀ I', bgI I' (bgGo w (emX w 8) p m k F) → rBg I I' → (∀ t, I' 190 t = I 190 t) → P (.inl none, (am_SH, I', J, Pf), 0, 0)) → am_go none (d0 + 3) 282 (14, [some (.ref 163), some (.int (ni p)), some (.int (ni (wN w (32 + 3 * p)))), some (.int (ni k)), l4, l5], [], (am_SH, I1, J, Pf), 0, 0) P := by
    intro m
    induction m with
    | zero =>
      intro k I1 F l4 l5 hm hk hf h19 hF kk
      have : k = wN w (32 + 3 * p + 2) := by omega
      subst this
      have hw1 : I1 167 = w := by rw [← hw]; funext i; exact hf _ _ (by omega) (by omega) (by omega)
      refine v282_14 hp ?_
      rw [i3, ni_p2, e34, hw1, g4, if_pos ((ni_le (by omega) (by omega)).mpr (by omega))]
      exact ⟨ni_in (by omega) (by omega), kk I1 hF hf h19⟩
    | succ m ih =>
      intro k I1 F l4 l5 hm hk hf h19 hF kk
      have hw1 : I1 167 = w := by rw [← hw]; funext i; exact hf _ _ (by omega) (by omega) (by omega)
      have hep : eP p k = 92 + (4 * p + k) * 11 := rfl
      have p0 : (ni (eP p k)).toNatClampNeg = eP p k := ni_nat (by omega)
      have p1 : (ni (eP p k + 1)).toNatClampNeg = eP p k + 1 := ni_nat (by omega)
      have p3 : (ni (eP p k + 3)).toNatClampNeg = eP p k + 3 := ni_nat (by omega)
      refine v282_14 hp ?_
      rw [i3, ni_p2, e34, hw1, g4, if_neg (fun z => absurd ((ni_le (by omega) (by omega)).mp z) (by omega)), ePn, ni_p1 (eP p k), ni_p3 (eP p k), p0, p1, p3, m3, ni_p1, ni_p2, s0, s1, s2]
      refine ⟨ni_in (by omega) (by omega), ni_in (by omega) (by omega), ni_in (by omega) (by omega), ?_⟩
      have KS : ∀ (x y z : Int32) (I0 : am_I), (∀ i, I0 191 i = I1 191 i) → (∀ c, c < 95 → r3 x y z c = bgE w F p k c) → bgI (orI I0 (wN w (32 + 3 * p)) x y z) (bgK w p k F) := by
        intro x y z I0 h0 h1
        refine hF.set h0 g1 (fun a c ha hc => ?_)
        unfold bgK
        by_cases e : a = wN w (32 + 3 * p)
        · subst e; rw [if_pos rfl, h1 c hc, decide_eq_true rfl, Bool.true_and]
        · rw [if_neg e, decide_eq_false (fun y => e y.symm), Bool.false_and, Bool.or_false]
      have stop : emPt w (emX w 8) p k = false → ∀ I', bgI I' (bgK w p k F) → rBg I I' → (∀ t, I' 190 t = I 190 t) → P (.inl none, (am_SH, I', J, Pf), 0, 0) := fun e I' h1 h2 h3 => kk I' (by unfold bgGo; rw [if_neg (by rw [e]; decide)]; exact h1) h2 h3
      rcases g6 k (by omega) with ⟨t1, cc, t2, t3⟩ | ⟨t1, ss, t2, t3⟩ | ⟨t1, mm, t2, t3, t4, t5⟩
      · have w0' := hG.1.1.2
        rw [if_pos t1, t3, i3, ni_p1, ni_p2, show (ni (8 + 3 * cc)).toNatClampNeg = 8 + 3 * cc from ni_nat (by omega), show (ni (8 + 3 * cc + 1)).toNatClampNeg = 8 + 3 * cc + 1 from ni_nat (by omega), show (ni (8 + 3 * cc + 2)).toNatClampNeg = 8 + 3 * cc + 2 from ni_nat (by omega)]
        have ecc : wN w (eP p k + 1) = cc := by unfold wN; rw [t3]; exact ni_nat (by omega)
        refine ⟨ni_in (by omega) (by omega), ni_in (by omega) (by omega), ni_in (by omega) (by omega), b0, b0, b1, b1, b2', b2', ?_⟩
        refine stop (by unfold emPt; rw [decide_eq_false (by rw [t1]; decide), Bool.false_and]) (orI I1 (wN w (32 + 3 * p)) _ _ _) (KS _ _ _ I1 (fun _ => rfl) (fun c hc => ?_)) (fun o k e1 e2 e3 => (orI_o e2).trans (hf o k e1 e2 e3)) (fun t => (orI_o (by omega)).trans (h19 t))
        unfold bgE
        rw [if_pos t1, ecc]; rfl
      · have ess : wN w (eP p k + 1) = ss := by unfold wN; rw [t3]; exact ni_nat (by omega)
        rw [if_neg (by rw [t1]; decide), if_pos t1, t3, m3, ni_p1, ni_p2, show (ni (3 * ss)).toNatClampNeg = 3 * ss from ni_nat (by omega), show (ni (3 * ss + 1)).toNatClampNeg = 3 * ss + 1 from ni_nat (by omega), show (ni (3 * ss + 2)).toNatClampNeg = 3 * ss + 2 from ni_nat (by omega), show (ni ss).toNatClampNeg = ss from ni_nat (by omega)]
        refine ⟨ni_in (by omega) (by omega), ni_in (by omega) (by omega), ni_in (by omega) (by omega), ni_in (by omega) (by omega), b0, b0, b1, b1, b2', b2', ni_in (by omega) t2, ?_⟩
        have ep : emPt w (emX w 8) p k = emX w 8 ss := by unfold emPt; rw [decide_eq_true t1, Bool.true_and, ess]
        have hK : bgI (orI I1 (wN w (32 + 3 * p)) (I1 191 (3 * ss)) (I1 191 (3 * ss + 1)) (I1 191 (3 * ss + 2))) (bgK w p k F) := KS _ _ _ I1 (fun _ => rfl) (fun c hc => by unfold bgE; rw [if_neg (by rw [t1]; decide), if_pos t1, ess]; exact hF ss t2 c hc)
        have hfr : rBg I (orI I1 (wN w (32 + 3 * p)) (I1 191 (3 * ss)) (I1 191 (3 * ss + 1)) (I1 191 (3 * ss + 2))) := fun o k e1 e2 e3 => (orI_o e2).trans (hf o k e1 e2 e3)
        have h19' : ∀ t, orI I1 (wN w (32 + 3 * p)) (I1 191 (3 * ss)) (I1 191 (3 * ss + 1)) (I1 191 (3 * ss + 2)) 190 t = I 190 t := fun t => (orI_o (by omega)).trans (h19 t)
        rw [h19 ss, hE ss t2]
        cases c : emX w 8 ss with
        | false =>
          rw [if_pos (show b2 false = 0 from rfl)]
          exact stop (by rw [ep, c]) _ hK hfr h19'
        | true =>
          rw [if_neg (show ¬ b2 true = 0 by decide), ni_p1]
          exact ih (k + 1) _ _ _ _ (by omega) (by omega) hfr h19' hK (fun I' k1 k2 k3 => kk I' (by unfold bgGo; rw [if_pos (by rw [ep, c])]; exact k1) k2 k3)
      · rw [if_neg (by rw [t1]; decide), if_neg (by rw [t1]; decide)]
        have t6 : isSg (w (eP p k + 3)) = true := t5 0 (by omega)
        obtain ⟨cs, cs1, cs2, cs3⟩ := isSg_ni t6
        have hg : ∀ c, c < 95 → bgE w F p k c = decide (c + 32 = cs) := by
          intro c hc
          unfold bgE
          rw [if_neg (by rw [t1]; decide), if_neg (by rw [t1]; decide), cs3]
          exact decide_eq_decide.mpr (by rw [ni_inj (by omega) (by omega)]; omega) 
        have hst := stop (by unfold emPt; rw [decide_eq_false (by rw [t1]; decide), Bool.false_and])
        have u163 : ∀ (v : Int32) (j i : Nat), (j = 17 ∨ j = 18 ∨ j = 19) → am_u (am_u (am_u (am_u I1 163 17 0) 163 18 0) 163 19 0) 163 j v 191 i = I1 191 i := fun v j i hj => by
          rw [am_u_nq (by omega), am_u_nq (by omega), am_u_nq (by omega), am_u_nq (by omega)]
        have hfin : ∀ (v : Int32) (j : Nat) (x y z : Int32), (j = 17 ∨ j = 18 ∨ j = 19) → (∀ c, c < 95 → r3 x y z c = decide (c + 32 = cs)) → P (.inl none, (am_SH, orJ (am_u (am_u (am_u (am_u I1 163 17 0) 163 18 0) 163 19 0) 163 j v) I1 (wN w (32 + 3 * p)) x y z, J, Pf), 0, 0) := fun v j x y z hj h1 => by
          rw [orJ_I (fun i => u163 v j i hj)]
          exact hst _ (KS x y z _ (fun i => u163 v j i hj) (fun c hc => by rw [hg c hc]; exact h1 c hc)) (fun o k e1 e2 e3 => by rw [orI_o e2, am_u_nq (by omega), am_u_nq (by omega), am_u_nq (by omega), am_u_nq (by omega)]; exact hf o k e1 e2 e3) (fun t => by rw [orI_o (by omega), am_u_nq (by omega), am_u_nq (by omega), am_u_nq (by omega), am_u_nq (by omega)]; exact h19 t)
        rw [cs3, show ni cs - 32 = ni (cs - 32) from ni_sub (by omega)]
        refine ⟨ni_in (by omega) (by omega), ?_⟩
        by_cases q1 : 32 ≤ cs - 32
        · rw [if_pos ((gle 32 (by omega) (by omega)).mpr q1)]
          by_cases q2 : 64 ≤ cs - 32
          · rw [if_pos ((gle 64 (by omega) (by omega)).mpr q2), show ni (cs - 32) - 64 = ni (cs - 32 - 64) from ni_sub (by omega)]
            refine ⟨ni_in (by omega) (by omega), b0, b0, b1, b1, b2', b2', ?_⟩
            exact hfin _ 19 0 0 _ (by omega) (fun c hc => r3_w2 q2 cs2 hc)
          · rw [if_neg (fun z => q2 ((gle 64 (by omega) (by omega)).mp z)), show ni (cs - 32) - 32 = ni (cs - 32 - 32) from ni_sub (by omega)]
            refine ⟨ni_in (by omega) (by omega), b0, b0, b1, b1, b2', b2', ?_⟩
            exact hfin _ 18 0 _ 0 (by omega) (fun c hc => r3_w1 q1 (by omega) hc)
        · rw [if_neg (fun z => q1 ((gle 32 (by omega) (by omega)).mp z))]
          refine ⟨ni_in (by omega) (by omega), b0, b0, b1, b1, b2', b2', ?_⟩
          exact hfin _ 17 _ 0 0 (by omega) (fun c hc => r3_w0 (by omega) cs1 hc)
  refine am_mth_of rfl rfl (v282_0 hp ?_)
  rw [i3, e32, hw, g2, show (0 : Int32) = ni 0 from rfl]
  exact ⟨ni_in (by omega) (by omega), LE _ 0 I B _ _ rfl (Nat.zero_le _) rBg.rfl' (fun _ => rfl) hB kk⟩
/-- the reference lays its begins -/
theorem sr_lays (hp : am_PF Pf) (hG : WG w) {I : am_I} (hw : I 167 = w)
    (kk : ∀ I', bgI I' (bgC w 8) → (∀ t, t < 8 → I' 190 t = b2 (emX w 8 t)) → rBg I I' → P (.inl none, (am_SH, I', J, Pf), 0, 0)) : am_mth (d0 + 6) 283 [.ref 163] (am_SH, I, J, Pf) P := by
  obtain ⟨⟨w0, w0'⟩, ⟨w1, w1'⟩, ⟨w2, w2'⟩, -, -, wk⟩ := id hG.1
  have hw1 : ∀ {I1 : am_I}, rBg I I1 → I1 167 = w := fun hf => by rw [← hw]; funext i; exact hf _ _ (by omega) (by omega) (by omega)
  have m3 : ∀ a, (3 : Int32) * ni a = ni (3 * a) := fun a => ni_mul 3 a
  -- the begins' rounds
  have BP : ∀ (m : Nat) (I1 : am_I) (j p : Nat) (F : Nat → Nat → Bool), wN w 1 - p = m → p ≤ wN w 1 → rBg I I1 → (∀ t, t < 8 → I1 190 t = b2 (emX w 8 t)) → bgI I1 (bgR w (emX w 8) p F) → (∀ (I' : am_I) (l2 : Option Value), bgI I' (bgR w (emX w 8) (wN w 1) F) → (∀ t, t < 8 → I' 190 t = b2 (emX w 8 t)) → rBg I I' → am_go none (d0 + 5) 283 (175, [some (.ref 163), some (.int (ni (j + 1))), l2], [], (am_SH, I', J, Pf), 0, 0) P) → am_go none (d0 + 5) 283 (183, [some (.ref 163), some (.int (ni j)), some (.int (ni p))], [], (am_SH, I1, J, Pf), 0, 0) P := by
    intro m
    induction m with
    | zero =>
      intro I1 j p F hm hpp hf hE hB kk
      have : p = wN w 1 := by omega
      subst this
      refine v283_183 hp ?_
      rw [hw1 hf, w1, if_pos ((ni_le (by omega) (by omega)).mpr (by omega)), ni_p1]
      exact kk I1 _ hB hE hf
    | succ m ih =>
      intro I1 j p F hm hpp hf hE hB kk
      refine v283_183 hp ?_
      rw [hw1 hf, w1, if_neg (fun z => absurd ((ni_le (by omega) (by omega)).mp z) (by omega))]
      refine sr_beginsby (d0 := d0 + 1) hp hG (hw1 hf) hE hB (by omega) (fun I2 z1 z2 z3 => am_back (v283_198 hp ?_))
      rw [ni_p1]
      exact ih I2 j (p + 1) F (by omega) (by omega) (hf.trans z2) (fun t ht => by rw [z3]; exact hE t ht) z1 kk
  have BA : ∀ (m : Nat) (I1 : am_I) (j : Nat) (l2 : Option Value), 9 - j = m → j ≤ 9 → rBg I I1 → (∀ t, t < 8 → I1 190 t = b2 (emX w 8 t)) → bgI I1 (bgF w j) → am_go none (d0 + 5) 283 (175, [some (.ref 163), some (.int (ni j)), l2], [], (am_SH, I1, J, Pf), 0, 0) P := by
    intro m
    induction m with
    | zero =>
      intro I1 j l2 hm hj hf hE hB
      have : j = 9 := by omega
      subst this
      refine v283_175 hp ?_
      rw [if_pos (by decide)]
      exact kk I1 (fun s hs k hk => by rw [hB s hs k hk]; exact bg_CF hG hs) hE hf
    | succ m ih =>
      intro I1 j l2 hm hj hf hE hB
      refine v283_175 hp ?_
      rw [if_neg (fun z => absurd ((glt 8 (by omega) (by omega)).mp z) (by omega)), show (0 : Int32) = ni 0 from rfl]
      exact BP _ I1 j 0 (bgF w j) rfl (Nat.zero_le _) hf hE hB (fun I' l2 z1 z2 z3 => ih I' (j + 1) l2 (by omega) (by omega) z3 z2 z1)
  -- the quotes
  have BQ : ∀ (m : Nat) (I1 : am_I) (q : Nat) (l2 : Option Value), wN w 2 - q = m → q ≤ wN w 2 → rBg I I1 → (∀ t, t < 8 → I1 190 t = b2 (emX w 8 t)) → bgI I1 (bgQs w q (fun _ _ => false)) → am_go none (d0 + 5) 283 (104, [some (.ref 163), some (.int (ni q)), l2], [], (am_SH, I1, J, Pf), 0, 0) P := by
    intro m
    induction m with
    | zero =>
      intro I1 q l2 hm hq hf hE hB
      have : q = wN w 2 := by omega
      subst this
      refine v283_104 hp ?_
      rw [hw1 hf, w2, if_pos ((ni_le (by omega) (by omega)).mpr (by omega)), show (0 : Int32) = ni 0 from rfl]
      exact BA 9 I1 0 _ rfl (by omega) hf hE hB
    | succ m ih =>
      intro I1 q l2 hm hq hf hE hB
      obtain ⟨g1, g2, g3, g4⟩ := hG.qu (q := q) (by omega)
      obtain ⟨-, -, -, -, -, -, t6, -⟩ := hG.2.2.1 q (by omega)
      obtain ⟨cs, cs1, cs2, cs3⟩ := isSg_ni t6
      have s0 : (ni (3 * wN w (972 + 5 * q))).toNatClampNeg = 3 * wN w (972 + 5 * q) := ni_nat (by omega)
      have s1 : (ni (3 * wN w (972 + 5 * q) + 1)).toNatClampNeg = 3 * wN w (972 + 5 * q) + 1 := ni_nat (by omega)
      have s2 : (ni (3 * wN w (972 + 5 * q) + 2)).toNatClampNeg = 3 * wN w (972 + 5 * q) + 2 := ni_nat (by omega)
      have b0 : am_in (ni (3 * wN w (972 + 5 * q))) 24 = true := ni_in (by omega) (by omega)
      have b1 : am_in (ni (3 * wN w (972 + 5 * q) + 1)) 24 = true := ni_in (by omega) (by omega)
      have b2' : am_in (ni (3 * wN w (972 + 5 * q) + 2)) 24 = true := ni_in (by omega) (by omega)
      have b972 : am_in (ni (972 + 5 * q)) 1040 = true := ni_in (by omega) (by omega)
      have hfin : ∀ (v : Int32) (j : Nat) (x y z : Int32), (j = 17 ∨ j = 18 ∨ j = 19) → (∀ c, c < 95 → r3 x y z c = decide (c + 32 = cs)) → am_go none (d0 + 5) 283 (104, [some (.ref 163), some (.int (ni q + 1)), l2], [], (am_SH, orJ (am_u (am_u (am_u (am_u I1 163 17 0) 163 18 0) 163 19 0) 163 j v) I1 (wN w (972 + 5 * q)) x y z, J, Pf), 0, 0) P := fun v j x y z hj h1 => by
        rw [ni_p1, orJ_I (fun i => by rw [am_u_nq (by omega), am_u_nq (by omega), am_u_nq (by omega), am_u_nq (by omega)])]
        refine ih _ (q + 1) _ (by omega) (by omega) (fun o k e1 e2 e3 => by rw [orI_o e2, am_u_nq (by omega), am_u_nq (by omega), am_u_nq (by omega), am_u_nq (by omega)]; exact hf o k e1 e2 e3) (fun t ht => by rw [orI_o (by omega), am_u_nq (by omega), am_u_nq (by omega), am_u_nq (by omega), am_u_nq (by omega)]; exact hE t ht) (hB.set (fun k => by rw [am_u_nq (by omega), am_u_nq (by omega), am_u_nq (by omega), am_u_nq (by omega)]) g1 (fun a c ha hc => ?_))
        show bgQ w q (bgQs w q (fun _ _ => false)) a c = _
        unfold bgQ
        by_cases e : a = wN w (972 + 5 * q)
        · subst e
          rw [if_pos rfl, h1 c hc, decide_eq_true rfl, Bool.true_and, cs3, decide_eq_decide.mpr (show (ni cs = ni (c + 32)) ↔ c + 32 = cs from by rw [ni_inj (by omega) (by omega)]; omega)]
        · rw [if_neg e, decide_eq_false (fun y => e y.symm), Bool.false_and, Bool.or_false]
      refine v283_104 hp ?_
      rw [hw1 hf, w2, if_neg (fun z => absurd ((ni_le (by omega) (by omega)).mp z) (by omega)), i5, ni_p2, show (ni (972 + 5 * q + 2)).toNatClampNeg = 972 + 5 * q + 2 from ni_nat (by omega), show (ni (972 + 5 * q)).toNatClampNeg = 972 + 5 * q from ni_nat (by omega), cs3, show ni cs - 32 = ni (cs - 32) from ni_sub (by omega), g2, m3, ni_p1 (3 * _), ni_p2, s0, s1, s2]
      refine ⟨ni_in (by omega) (by omega), ?_⟩
      by_cases q1 : 32 ≤ cs - 32
      · rw [if_pos ((gle 32 (by omega) (by omega)).mpr q1)]
        by_cases q2 : 64 ≤ cs - 32
        · rw [if_pos ((gle 64 (by omega) (by omega)).mpr q2), show ni (cs - 32) - 64 = ni (cs - 32 - 64) from ni_sub (by omega)]
          refine ⟨b972, b0, b0, b1, b1, b2', b2', ?_⟩
          exact hfin _ 19 0 0 _ (by omega) (fun c hc => r3_w2 q2 cs2 hc)
        · rw [if_neg (fun z => q2 ((gle 64 (by omega) (by omega)).mp z)), show ni (cs - 32) - 32 = ni (cs - 32 - 32) from ni_sub (by omega)]
          refine ⟨b972, b0, b0, b1, b1, b2', b2', ?_⟩
          exact hfin _ 18 0 _ 0 (by omega) (fun c hc => r3_w1 q1 (by omega) hc)
      · rw [if_neg (fun z => q1 ((gle 32 (by omega) (by omega)).mp z))]
        refine ⟨b972, b0, b0, b1, b1, b2', b2', ?_⟩
        exact hfin _ 17 _ 0 0 (by omega) (fun c hc => r3_w0 (by omega) cs1 hc)
  -- the empties' rounds
  have EP : ∀ (m : Nat) (I1 : am_I) (j p : Nat) (E : Nat → Bool), wN w 1 - p = m → p ≤ wN w 1 → rBg I I1 → bgI I1 (fun _ _ => false) → (∀ t, t < 8 → I1 190 t = b2 (emR w p E t)) → (∀ (I' : am_I) (l2 : Option Value), rBg I I' → bgI I' (fun _ _ => false) → (∀ t, t < 8 → I' 190 t = b2 (emR w (wN w 1) E t)) → am_go none (d0 + 5) 283 (47, [some (.ref 163), some (.int (ni (j + 1))), l2], [], (am_SH, I', J, Pf), 0, 0) P) → am_go none (d0 + 5) 283 (55, [some (.ref 163), some (.int (ni j)), some (.int (ni p))], [], (am_SH, I1, J, Pf), 0, 0) P := by
    intro m
    induction m with
    | zero =>
      intro I1 j p E hm hpp hf hZ hE kk
      have : p = wN w 1 := by omega
      subst this
      refine v283_55 hp ?_
      rw [hw1 hf, w1, if_pos ((ni_le (by omega) (by omega)).mpr (by omega)), ni_p1]
      exact kk I1 _ hf hZ hE
    | succ m ih =>
      intro I1 j p E hm hpp hf hZ hE kk
      obtain ⟨g1, g2, g3, g4, g5, g6⟩ := hG.pr (p := p) (by omega)
      refine v283_55 hp ?_
      rw [hw1 hf, w1, if_neg (fun z => absurd ((ni_le (by omega) (by omega)).mp z) (by omega))]
      refine sr_canempty (d0 := d0 + 4) hp hG (hw1 hf) hE (by omega) (am_back (v283_70 hp ?_))
      have e9 : ∀ t, emR w (p + 1) E t = (emR w p E t || (decide (wN w (32 + 3 * p) = t) && emOk w p (wN w (32 + 3 * p + 2)) (emR w p E))) := fun _ => rfl
      cases c : emOk w p (wN w (32 + 3 * p + 2)) (emR w p E) with
      | false =>
        rw [if_pos (show b2 false = 0 from rfl), ni_p1]
        refine ih I1 j (p + 1) E (by omega) (by omega) hf hZ (fun t ht => ?_) kk
        rw [hE t ht, e9, c, Bool.and_false, Bool.or_false]
      | true =>
        rw [if_neg (show ¬ b2 true = 0 by decide), i3, show (ni (32 + 3 * p)).toNatClampNeg = 32 + 3 * p from ni_nat (by omega), hw1 hf, g2, show (ni (wN w (32 + 3 * p))).toNatClampNeg = wN w (32 + 3 * p) from ni_nat (by omega), ni_p1]
        refine ⟨ni_in (by omega) (by omega), ni_in (by omega) g1, ih _ j (p + 1) E (by omega) (by omega) (fun o k e1 e2 e3 => (am_u_nq (by omega)).trans (hf o k e1 e2 e3)) (hZ.o (fun k => am_u_nq (by omega))) (fun t ht => ?_) kk⟩
        rw [e9, c, Bool.and_true]
        by_cases e : t = wN w (32 + 3 * p)
        · subst e; rw [am_u_same, decide_eq_true rfl, Bool.or_true]; rfl
        · rw [am_u_nq (by omega), hE t ht, decide_eq_false (fun y => e y.symm), Bool.or_false]
  have EA : ∀ (m : Nat) (I1 : am_I) (j : Nat) (l2 : Option Value), 9 - j = m → j ≤ 9 → rBg I I1 → bgI I1 (fun _ _ => false) → (∀ t, t < 8 → I1 190 t = b2 (emX w j t)) → am_go none (d0 + 5) 283 (47, [some (.ref 163), some (.int (ni j)), l2], [], (am_SH, I1, J, Pf), 0, 0) P := by
    intro m
    induction m with
    | zero =>
      intro I1 j l2 hm hj hf hZ hE
      have : j = 9 := by omega
      subst this
      refine v283_47 hp ?_
      rw [if_pos (by decide), show (0 : Int32) = ni 0 from rfl]
      exact BQ _ I1 0 _ rfl (Nat.zero_le _) hf (fun t ht => by rw [hE t ht, emX_9 hG]) hZ
    | succ m ih =>
      intro I1 j l2 hm hj hf hZ hE
      refine v283_47 hp ?_
      rw [if_neg (fun z => absurd ((glt 8 (by omega) (by omega)).mp z) (by omega)), show (0 : Int32) = ni 0 from rfl]
      exact EP _ I1 j 0 (emX w j) rfl (Nat.zero_le _) hf hZ hE (fun I' l2 z1 z2 z3 => ih I' (j + 1) l2 (by omega) (by omega) z1 z2 z3)
  -- all is cleared
  have Z2 : ∀ (m : Nat) (I1 : am_I) (s x : Nat), 3 - x = m → x ≤ 3 → s < 8 → rBg I I1 → (∀ i, i < 3 * s + x → I1 191 i = 0) → (∀ t, t < s + 1 → I1 190 t = 0) → (∀ (I' : am_I) (l2 : Option Value), rBg I I' → (∀ i, i < 3 * (s + 1) → I' 191 i = 0) → (∀ t, t < s + 1 → I' 190 t = 0) → am_go none (d0 + 5) 283 (2, [some (.ref 163), some (.int (ni (s + 1))), l2], [], (am_SH, I', J, Pf), 0, 0) P) → am_go none (d0 + 5) 283 (17, [some (.ref 163), some (.int (ni s)), some (.int (ni x))], [], (am_SH, I1, J, Pf), 0, 0) P := by
    intro m
    induction m with
    | zero =>
      intro I1 s x hm hx hs hf h1 h2 kk
      have : x = 3 := by omega
      subst this
      refine v283_17 hp ?_
      rw [if_pos (by decide), ni_p1]
      exact kk I1 _ hf (fun i hi => h1 i (by omega)) h2
    | succ m ih =>
      intro I1 s x hm hx hs hf h1 h2 kk
      refine v283_17 hp ?_
      rw [if_neg (fun z => absurd ((gle 3 (by omega) (by omega)).mp z) (by omega)), m3, ni_add, show (ni (3 * s + x)).toNatClampNeg = 3 * s + x from ni_nat (by omega), ni_p1]
      refine ⟨ni_in (by omega) (by omega), ih _ s (x + 1) (by omega) (by omega) hs (fun o k e1 e2 e3 => (am_u_nq (by omega)).trans (hf o k e1 e2 e3)) (fun i hi => ?_) (fun t ht => (am_u_nq (by omega)).trans (h2 t ht)) kk⟩
      by_cases e : i = 3 * s + x
      · subst e; exact am_u_same
      · rw [am_u_nq (by omega)]; exact h1 i (by omega)
  have Z1 : ∀ (m : Nat) (I1 : am_I) (s : Nat) (l2 : Option Value), 8 - s = m → s ≤ 8 → rBg I I1 → (∀ i, i < 3 * s → I1 191 i = 0) → (∀ t, t < s → I1 190 t = 0) → am_go none (d0 + 5) 283 (2, [some (.ref 163), some (.int (ni s)), l2], [], (am_SH, I1, J, Pf), 0, 0) P := by
    intro m
    induction m with
    | zero =>
      intro I1 s l2 hm hs hf h1 h2
      have : s = 8 := by omega
      subst this
      refine v283_2 hp ?_
      rw [if_pos (by decide), show (0 : Int32) = ni 0 from rfl]
      refine EA 9 I1 0 _ rfl (by omega) hf (fun a ha k hk => ?_) (fun t ht => by rw [h2 t ht]; rfl)
      rw [h1 _ (by omega), h1 _ (by omega), h1 _ (by omega)]
      unfold r3
      rw [bI_0, bI_0, bI_0, ite_self, ite_self]
    | succ m ih =>
      intro I1 s l2 hm hs hf h1 h2
      refine v283_2 hp ?_
      rw [if_neg (fun z => absurd ((gle 8 (by omega) (by omega)).mp z) (by omega)), show (ni s).toNatClampNeg = s from ni_nat (by omega), show (0 : Int32) = ni 0 from rfl]
      refine ⟨ni_in (by omega) (by omega), Z2 3 _ s 0 rfl (by omega) (by omega) (fun o k e1 e2 e3 => (am_u_nq (by omega)).trans (hf o k e1 e2 e3)) (fun i hi => (am_u_nq (by omega)).trans (h1 i (by omega))) (fun t ht => ?_) (fun I' l2 z1 z2 z3 => ih I' (s + 1) l2 (by omega) (by omega) z1 z2 z3)⟩
      by_cases e : t = s
      · subst e; exact am_u_same
      · rw [am_u_nq (by omega)]; exact h2 t (by omega)
  refine am_mth_of rfl rfl (v283_0 hp ?_)
  rw [show (0 : Int32) = ni 0 from rfl]
  exact Z1 8 I 0 _ rfl (by omega) rBg.rfl' (fun i hi => absurd hi (by omega)) (fun t ht => absurd ht (by omega))
end RBG
