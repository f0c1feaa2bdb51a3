/-! The reference: grammar() -/
theorem dF_down {f : Nat → Bool} {m k : Nat} : dF f (m + 1) k = (if f k = true then some k else dF f m (k + 1)) := rfl
/-- what a grammar's reading leaves -/
def rGk (I I' : am_I) : Prop := ∀ o k, ¬ rGs o k → I' o k = I o k
section RS5
variable {d : Nat} {P : am_O → Prop} {J : am_J} {Pf : am_R} {n : Nat} {b : Nat → Int32}
theorem rFr.gk {I I' : am_I} (h : rFr I I') : rGk I I' := fun o k e => h o k (fun z => e (by
  unfold rSc at z
  unfold rGs
  omega))
theorem rGk.trans {I I' I'' : am_I} (h : rGk I I') (g : rGk I' I'') : rGk I I'' := fun o k e => (g o k e).trans (h o k e)
theorem rGk.u {I I' : am_I} (h : rGk I I') {o k : Nat} {v : Int32} (e : rGs o k) : rGk I (am_u I' o k v) := by
  intro o' k' e'
  rw [am_u_nq]
  · exact h o' k' e'
  · rintro ⟨rfl, rfl⟩; exact e' e
/-- the end, behind a fault -/
theorem rr_gbad (hp : am_PF Pf) {I0 I : am_I} {g : Nat → Int32} {kd pl c : Nat} {l1 l3 l4 l5 : Option Value} (hl : am_k1 l1 = true) (hG : WG g) (hg : I 167 = g) (h5 : I 163 5 = ni pl) (h6 : I 163 6 = ni kd) (hpl : pl ≤ 600) (hf : rGk I0 I)
    (kk : ∀ I', rSo I' g → I' 163 8 = ni pl → I' 163 10 = ni c → I' 163 2 = I 163 2 → I' 163 0 = I 163 0 → rGk I0 I' → P (.inl (some (.int (ni kd - 10))), (am_SH, I', J, Pf), 0, 0)) :
    am_go none (d + 4) 229 (271, [some (.ref 163), l1, some (.int (ni c)), l3, l4, l5], [], (am_SH, I, J, Pf), 0, 0) P := by
  refine v229_271 hp ?_
  rw [h5, if_neg (ni_neg1 (by omega)), h6]
  have hf2 : rGk I0 (am_u (am_u I 163 8 (ni pl)) 163 10 (ni c)) := (hf.u (by simp [rGs])).u (by simp [rGs])
  refine sr_sorts (d0 := d + 2) (w := g) hp rfl (by omega) (by omega) (by omega) hG (by rw [am_u_o (by omega), am_u_o (by omega)]; exact hg) (fun I' g1 g2 => am_back (v229_310 hp (kk I' g1 ?_ ?_ ?_ ?_ (fun o k e => ?_))))
  · rw [g2 _ _ (by omega) (by omega) (by omega), am_u_nq (by omega), am_u_same]
  · rw [g2 _ _ (by omega) (by omega) (by omega), am_u_same]
  · rw [g2 _ _ (by omega) (by omega) (by omega), am_u_nq (by omega), am_u_nq (by omega)]
  · rw [g2 _ _ (by omega) (by omega) (by omega), am_u_nq (by omega), am_u_nq (by omega)]
  · have e2 : o ≠ 169 ∧ o ≠ 170 ∧ o ≠ 171 := by
      unfold rGs at e
      omega
    rw [g2 _ _ e2.1 e2.2.1 e2.2.2]
    exact hf2 o k e
/-- the drops, from the last to the first -/
theorem rr_gdrops (hp : am_PF Pf) {w g : Nat → Int32} (hW : WG w) {l1 : Option Value} (hl : am_k1 l1 = true) : ∀ (k : Nat) (I : am_I) (l4 l5 : Option Value) (c : Nat), k ≤ wN w 4 → I 166 = w → btR I 170 (ndW w 8) → c ≤ 60 → (match dF (badD w) (wN w 4 - k) k with | none => I 163 5 = -1 | some d => I 163 5 = w (1008 + 4 * d + 2) ∧ I 163 6 = 4 ∧ ni c = w (1008 + 4 * d + 3)) →
    (∀ (I' : am_I) (l3 l4 l5 : Option Value) (c' : Nat), c' ≤ 60 → (∀ o k, ¬ (o = 163 ∧ (k = 5 ∨ k = 6)) → I' o k = I o k) → (match dF (badD w) (wN w 4) 0 with | none => I' 163 5 = -1 ∧ c' = c | some d => I' 163 5 = w (1008 + 4 * d + 2) ∧ I' 163 6 = 4 ∧ ni c' = w (1008 + 4 * d + 3)) → am_go none (d + 4) 229 (271, [some (.ref 163), l1, some (.int (ni c')), l3, l4, l5], [], (am_SH, I', J, Pf), 0, 0) P) →
    am_go none (d + 4) 229 (194, [some (.ref 163), l1, some (.int (ni c)), some (.int (ni k - 1)), l4, l5], [], (am_SH, I, J, Pf), 0, 0) P := by
  intro k
  induction k with
  | zero =>
    intro I l4 l5 c hk hw hB hc hst kk
    refine v229_194 hp hl ?_
    rw [if_pos (by decide)]
    refine kk I _ _ _ c hc (fun _ _ _ => rfl) ?_
    rw [Nat.sub_zero] at hst
    revert hst
    cases dF (badD w) (wN w 4) 0 with
    | none => exact fun h => ⟨h, rfl⟩
    | some d => exact fun h => h
  | succ k ih =>
    intro I l4 l5 c hk hw hB hc hst kk
    obtain ⟨g1, g2, g3, g4, g5⟩ := hW.dr (d := k) (by omega)
    have hW4 := hW.1.2.2.2.2.1.2
    obtain ⟨s, t, pl, cl, -, -, -, q1, q2, -, -, q3, q4⟩ := hW.2.2.2.2.1 k (by omega)
    refine v229_194 hp hl ?_
    rw [show ni (k + 1) - 1 = ni k from ni_sub (a := k + 1) (b := 1) (by omega), if_neg (ni_nonneg (by omega)), i4, ni_p1, ni_p2, ni_p3, hw, show (ni (1008 + 4 * k)).toNatClampNeg = 1008 + 4 * k from ni_nat (by omega), show (ni (1008 + 4 * k + 1)).toNatClampNeg = 1008 + 4 * k + 1 from ni_nat (by omega), show (ni (1008 + 4 * k + 2)).toNatClampNeg = 1008 + 4 * k + 2 from ni_nat (by omega), show (ni (1008 + 4 * k + 3)).toNatClampNeg = 1008 + 4 * k + 3 from ni_nat (by omega), g2, g4, show (ni (wN w (1008 + 4 * k + 1))).toNatClampNeg = wN w (1008 + 4 * k + 1) from ni_nat (by omega)]
    refine ⟨ni_in (by omega) (by omega), ni_in (by omega) g3, ni_in (by omega) (by omega), ?_⟩
    have hbit := bI_sh (v := I 170 (wN w (1008 + 4 * k + 1))) (j := wN w (1008 + 4 * k)) (by omega)
    rw [hB _ g3 _ (by omega)] at hbit
    have h01 : ∀ v : Int32, (v &&& 1 = 0) ↔ ¬ (v &&& 1 = 1) := by
      intro v
      constructor
      · intro h z; rw [h] at z; exact absurd z (by decide)
      · intro h
        refine bI_ext (fun i hi => ?_)
        rw [bI_and, bI_0]
        by_cases c : i = 0
        · subst c
          by_cases c2 : bI v 0 = true
          · exfalso
            refine h (bI_ext (fun i hi => ?_))
            rw [bI_and]
            by_cases c3 : i = 0
            · subst c3; rw [c2]; rfl
            · have : bI 1 i = false := by
                have : (List.range 32).all (fun i => decide (i = 0) || !bI 1 i) = true := by decide +kernel
                have := List.all_eq_true.mp this i (List.mem_range.mpr hi)
                rw [decide_eq_false c3, Bool.false_or, Bool.not_eq_true'] at this
                exact this
              rw [this, Bool.and_false]
          · rw [(Bool.not_eq_true _).mp c2]; rfl
        · have : bI 1 i = false := by
            have : (List.range 32).all (fun i => decide (i = 0) || !bI 1 i) = true := by decide +kernel
            have := List.all_eq_true.mp this i (List.mem_range.mpr hi)
            rw [decide_eq_false c, Bool.false_or, Bool.not_eq_true'] at this
            exact this
          rw [this, Bool.and_false]
    have em : wN w 4 - k = (wN w 4 - (k + 1)) + 1 := by omega
    by_cases cb : badD w k = true
    · rw [if_neg (fun z => (h01 _).mp z (hbit.mpr cb))]
      refine ⟨ni_in (by omega) (by omega), ni_in (by omega) (by omega), ?_⟩
      rw [show ni k + -1 = ni k - 1 from (Int32.sub_eq_add_neg _ _).symm, q4]
      refine ih _ _ _ cl (by omega) (by rw [am_u_o (by omega), am_u_o (by omega)]; exact hw) (fun s hs t ht => by rw [am_u_nq (by omega), am_u_nq (by omega)]; exact hB s hs t ht) q2 ?_ (fun I' l3 l4 l5 c' h1 h2 h3 => kk I' l3 l4 l5 c' h1 (fun o k e => by rw [h2 o k e, am_u_nq (by omega), am_u_nq (by omega)]) ?_)
      · rw [em, dF_down, if_pos cb]
        exact ⟨by rw [am_u_nq (by omega), am_u_same], am_u_same, q4.symm⟩
      · revert h3
        cases hd : dF (badD w) (wN w 4) 0 with
        | none =>
          intro _
          have := dF_none _ _ hd k (Nat.zero_le _) (by omega)
          rw [this] at cb; cases cb
        | some d => exact fun h => h
    · rw [if_pos ((h01 _).mpr (fun z => cb (hbit.mp z)))]
      rw [show ni k + -1 = ni k - 1 from (Int32.sub_eq_add_neg _ _).symm]
      refine ih I _ _ c (by omega) hw hB hc ?_ kk
      rw [em, dF_down, if_neg cb]
      exact hst
/-- a grammar read: the state behind -/
def rGE (I I' : am_I) (e : Nat × Nat × Nat) (g : Nat → Int32) : Prop := rSo I' g ∧ I' 163 8 = ni e.2.1 ∧ I' 163 10 = ni e.2.2 ∧ I' 163 2 = 0 ∧ I' 163 0 = 0 ∧ rGk I I'
def rGG (I I' : am_I) (w : Nat → Int32) : Prop := I' 167 = w ∧ rSo I' w ∧ I' 163 8 = -1 ∧ I' 163 10 = -1 ∧ I' 163 2 = 0 ∧ I' 163 0 = 0 ∧ I' 163 29 = 0 ∧ I' 163 34 = 0 ∧ I' 163 65 = 0 ∧ I' 163 35 = 0 ∧ I' 163 48 = 0 ∧ I' 163 46 = 0 ∧ (∀ i, i < 25 → I' 180 i = 0) ∧ (∀ o k, ¬ rGs o k → ¬ (o = 163 ∧ (k = 29 ∨ k = 34 ∨ k = 65 ∨ k = 35 ∨ k = 48 ∨ k = 46)) → o ≠ 167 → o ≠ 180 → I' o k = I o k)
theorem sr_grammar (hp : am_PF Pf) {I : am_I} {g : Nat → Int32} {tp : Nat} (hb : I 165 = b) (ht : I 163 2 = ni tp) (htp : tp ≤ 600) (hn : n ≤ tp) (hG : WG g) (hg : I 167 = g)
    (kk : rm3 (mGram b n (I 166)) (fun e => e.2.1 ≤ 600 → e.2.2 ≤ 60 → ∀ I', rGE I I' e g → P (.inl (some (.int (ni e.1 - 10))), (am_SH, I', J, Pf), 0, 0)) (fun w => WG w → sndW w → ∀ w2 I', agr w w2 → rGG I I' w2 → P (.inl (some (.int (w 1))), (am_SH, I', J, Pf), 0, 0))) :
    am_mth (d + 42) 229 [.ref 163, .int (ni n)] (am_SH, I, J, Pf) P := by
  refine am_mth_of rfl rfl (v229_0 hp ?_)
  rw [if_neg (ni_nonneg (by omega)), ht, if_neg (fun z => absurd ((ni_lt (by omega) (by omega)).mp z) (by omega))]
  have a165 : ∀ x0 x3 : Int32, am_u (am_u (am_u (am_u (am_u (am_u (am_u (am_u I 163 0 x0) 163 2 0) 163 8 (-1)) 163 3 x3) 163 4 0) 163 5 (-1)) 163 7 0) 163 10 (-1) 165 = b := fun x0 x3 => by
    rw [am_u_o (by omega), am_u_o (by omega), am_u_o (by omega), am_u_o (by omega), am_u_o (by omega), am_u_o (by omega), am_u_o (by omega), am_u_o (by omega)]; exact hb
  have aS : ∃ S : am_I, S = am_u (am_u (am_u (am_u (am_u (am_u (am_u (am_u I 163 0 0) 163 2 0) 163 8 (-1)) 163 3 (ni n)) 163 4 0) 163 5 (-1)) 163 7 0) 163 10 (-1) ∧ S 165 = b ∧ S 163 0 = 0 ∧ S 163 2 = 0 ∧ S 163 8 = -1 ∧ S 163 3 = ni n ∧ S 163 4 = ni 0 ∧ S 163 5 = -1 ∧ S 163 7 = 0 ∧ S 163 10 = -1 ∧ (∀ o k, ¬ rGs o k → S o k = I o k) ∧ S 166 = I 166 := by
    refine ⟨_, rfl, a165 _ _, ?_, ?_, ?_, ?_, ?_, ?_, ?_, ?_, fun o k e => ?_, ?_⟩
    all_goals first | (simp [am_u]; done) | skip
    · rfl
    · have e2 : ¬ (o = 163 ∧ (k = 0 ∨ k = 2 ∨ k = 8 ∨ k = 3 ∨ k = 4 ∨ k = 5 ∨ k = 7 ∨ k = 10)) := by
        unfold rGs at e
        omega
      rw [am_u_nq (by omega), am_u_nq (by omega), am_u_nq (by omega), am_u_nq (by omega), am_u_nq (by omega), am_u_nq (by omega), am_u_nq (by omega), am_u_nq (by omega)]
    · rw [am_u_o (by omega), am_u_o (by omega), am_u_o (by omega), am_u_o (by omega), am_u_o (by omega), am_u_o (by omega), am_u_o (by omega), am_u_o (by omega)]
  obtain ⟨S, eS, s165, s0, s2, s8, s3, s4, s5, s7, s10, sf, s166⟩ := aS
  rw [← eS]
  have hGk : ∀ I', (∀ o k, ¬ rGs o k → I' o k = S o k) → rGk I I' := fun I' h o k e => (h o k e).trans (sf o k e)
  refine sr_clears (d0 := d + 40) hp (fun I1 c1 c2 => am_back (v229_42 hp rfl ?_))
  have hag : agr w0 (w0T (I 166)) := fun i hi => if_pos hi
  have hn6 : n ≤ 600 := by omega
  have hRM : RM I1 b n 0 := by
    refine ⟨?_, ?_, ?_, Nat.zero_le _, hn6⟩
    · funext i; rw [c2 _ _ (by omega)]; rw [s165]
    · rw [c2 _ _ (by omega)]; exact s3
    · rw [c2 _ _ (by omega)]; exact s4
  have hw1 : I1 166 = w0T (I 166) := by rw [c1, s166]
  have gI1 : ∀ o k, ¬ rGs o k → I1 o k = S o k := fun o k e => c2 o k (fun z => e (by subst z; simp [rGs]))
  have rsc : ∀ o k, ¬ rGs o k → ¬ rSc o k := fun o k e z => e (by
    unfold rSc at z
    unfold rGs
    omega)
  have bad : ∀ (I' : am_I) (l3 l4 l5 : Option Value) (kd pl c : Nat), pl ≤ 600 → I' 163 5 = ni pl → I' 163 6 = ni kd → (∀ o k, ¬ rGs o k → I' o k = S o k) → I' 163 2 = 0 → I' 163 0 = 0 → (∀ I', rGE I I' (kd, pl, c) g → P (.inl (some (.int (ni kd - 10))), (am_SH, I', J, Pf), 0, 0)) → am_go none (d + 41) 229 (271, [some (.ref 163), some (.int (ni n)), some (.int (ni c)), l3, l4, l5], [], (am_SH, I', J, Pf), 0, 0) P := by
    intro I' l3 l4 l5 kd pl c h2 h3 h4 h5 h6 h7 kk
    refine rr_gbad (d := d + 37) hp (I0 := I) rfl hG ?_ h3 h4 h2 (hGk _ h5) (fun I'' z1 z2 z3 z4 z5 z6 => kk I'' ⟨z1, z2, z3, z4.trans h6, z5.trans h7, z6⟩)
    funext k
    rw [h5 _ _ (by simp [rGs]), sf _ _ (by simp [rGs]), hg]
  rw [show (0 : Int32) = ni 0 from rfl]
  refine rr_clauses (d := d) hp rfl 62 I1 0 0 (w0T (I 166)) _ _ _ (by omega) (by omega) (WG_w0.agr hag) hRM (by rw [c2 _ _ (by omega)]; exact s5) (by rw [c2 _ _ (by omega)]; exact s7) hw1 ?_
  unfold mGram at kk
  cases hm : mClauses b n 62 (w0T (I 166)) 0 0 with
  | inl e =>
    rw [hm] at kk
    intro e1 e2 I' l3 l4 l5 hF
    refine v229_170 hp ?_
    have hF5 := hF.bad (by omega)
    rw [if_neg hF5]
    have fr : ∀ o k, ¬ rGs o k → I' o k = S o k := fun o k e => (hF.2.2 o k (rsc o k e)).trans (gI1 o k e)
    refine bad I' _ _ _ e.1 e.2.1 e.2.2 e2 hF.1 hF.2.1 fr ?_ ?_ (kk e2 e1)
    · rw [hF.2.2 _ _ (by simp [rSc]), c2 _ _ (by omega)]; exact s2
    · rw [hF.2.2 _ _ (by simp [rSc]), c2 _ _ (by omega)]; exact s0
  | inr w =>
    rw [hm] at kk
    intro hGw I' c' l3 l4 l5 hc' h166 hf
    have e5 : I' 163 5 = -1 := by rw [hf _ _ (by omega) (by omega) (by omega), c2 _ _ (by omega)]; exact s5
    refine v229_170 hp ?_
    rw [if_pos e5]
    have hW4 := hGw.1.2.2.2.2.1
    refine sr_sorts (d0 := d + 39) (x := 166) hp rfl (by omega) (by omega) (by omega) hGw h166 (fun I2 g1 g2 => am_back (v229_185 hp ?_))
    have e2 : I2 166 = w := by rw [← h166]; funext k; exact g2 _ _ (by omega) (by omega) (by omega)
    rw [e2, hW4.1]
    have f2 : ∀ o k, ¬ rGs o k → I2 o k = S o k := fun o k e => by
      have n1 : o ≠ 169 ∧ o ≠ 170 ∧ o ≠ 171 ∧ o ≠ 166 ∧ o ≠ 168 ∧ ¬ (o = 163 ∧ (k = 4 ∨ (14 ≤ k ∧ k ≤ 19))) := by
        unfold rGs at e
        omega
      rw [g2 _ _ n1.1 n1.2.1 n1.2.2.1, hf _ _ n1.2.2.2.1 n1.2.2.2.2.1 n1.2.2.2.2.2, gI1 _ _ e]
    have s2' : I2 163 2 = 0 := by rw [g2 _ _ (by omega) (by omega) (by omega), hf _ _ (by omega) (by omega) (by omega), c2 _ _ (by omega)]; exact s2
    have s0' : I2 163 0 = 0 := by rw [g2 _ _ (by omega) (by omega) (by omega), hf _ _ (by omega) (by omega) (by omega), c2 _ _ (by omega)]; exact s0
    have s8' : I2 163 8 = -1 := by rw [g2 _ _ (by omega) (by omega) (by omega), hf _ _ (by omega) (by omega) (by omega), c2 _ _ (by omega)]; exact s8
    have s10' : I2 163 10 = -1 := by rw [g2 _ _ (by omega) (by omega) (by omega), hf _ _ (by omega) (by omega) (by omega), c2 _ _ (by omega)]; exact s10
    have s5' : I2 163 5 = -1 := by rw [g2 _ _ (by omega) (by omega) (by omega)]; exact e5
    refine rr_gdrops (d := d + 37) (g := w) hp hGw rfl (wN w 4) I2 _ _ c' (Nat.le_refl _) e2 g1.2.1 hc' ?_ (fun I3 l3 l4 l5 c3 hc3 k1 k2 => ?_)
    · rw [Nat.sub_self]; exact s5'
    have f3 : ∀ o k, ¬ rGs o k → I3 o k = S o k := fun o k e => (k1 o k (fun z => e (by unfold rGs; omega))).trans (f2 o k e)
    have e3 : I3 166 = w := by rw [← e2]; funext k; exact k1 _ _ (by omega)
    dsimp only at kk
    revert k2
    cases hd : dF (badD w) (wN w 4) 0 with
    | some dd =>
      rw [hd] at kk
      intro k2
      obtain ⟨z1, z2, z3⟩ := dF_some _ _ _ hd
      obtain ⟨sx, tx, pl, cl, -, -, -, q1, q2, -, -, q3, q4⟩ := hGw.2.2.2.2.1 dd (by omega)
      dsimp only at k2
      rw [q3, q4] at k2
      have hcc : c3 = cl := (ni_inj (by omega) (by omega)).mp k2.2.2
      have n3 : wN w (1008 + 4 * dd + 2) = pl := by unfold wN; rw [q3]; exact ni_nat (by omega)
      have n4 : wN w (1008 + 4 * dd + 3) = c3 := by unfold wN; rw [q4, ← hcc]; exact ni_nat (by omega)
      refine bad I3 _ _ _ 4 pl c3 q1 k2.1 k2.2.1 f3 ?_ ?_ (fun I4 hE => ?_)
      · rw [k1 _ _ (by omega)]; exact s2'
      · rw [k1 _ _ (by omega)]; exact s0'
      · dsimp only [rm3] at kk
        rw [n3, n4] at kk
        exact kk q1 hc3 I4 hE
    | none =>
      rw [hd] at kk
      intro k2
      have hsnd := sndW_of hd
      refine v229_271 hp ?_
      rw [if_pos k2.1, e3]
      refine sr_sets (d0 := d + 38) (w := fun i => if i < 1040 then w i else I3 167 i) hp (hGw.agr (fun i hi => if_pos hi)) (fun i hi => ?_) (fun i hi => ?_) (fun I4 m1 m2 m3 m4 m5 m6 m7 m8 m9 m10 => am_back (v229_294 hp ?_))
      · rw [am_u_o (by omega), e3, if_pos hi]
      · rw [am_u_o (by omega), if_neg (by omega)]
      · have hag2 : agr w (fun i => if i < 1040 then w i else I3 167 i) := fun i hi => if_pos hi
        refine kk hGw hsnd _ I4 hag2 ⟨m1, m2, ?_, ?_, ?_, ?_, m3, m4, m5, m6, m7, m8, m9, fun o k e1 e2 e3 e4 => ?_⟩
        · rw [m10 _ _ (by omega) (by omega) (by omega) (by omega), am_u_same]; exact k2.1
        · rw [m10 _ _ (by omega) (by omega) (by omega) (by omega), am_u_nq (by omega), k1 _ _ (by omega)]; exact s10'
        · rw [m10 _ _ (by omega) (by omega) (by omega) (by omega), am_u_nq (by omega), k1 _ _ (by omega)]; exact s2'
        · rw [m10 _ _ (by omega) (by omega) (by omega) (by omega), am_u_nq (by omega), k1 _ _ (by omega)]; exact s0'
        · rw [m10 o k e2 e3 (fun z => e1 (by unfold rGs; omega)) e4, am_u_nq (fun z => e1 (by unfold rGs; omega)), f3 o k e1, sf o k e1]
end RS5
