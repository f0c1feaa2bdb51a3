/-! The class: productions, quotes, nots, drops, lay, classes -/
/-- a fault, or what the ; behind will find -/
def cKf (r n : Nat) (P : am_O → Prop) (Pf : am_R) (I : am_I) (J : am_J) (kd pl : Nat) : Prop := pl ≤ 600 → (∀ I' J', cFF r I I' J J' kd pl → P (.inl (some (.int 0)), (am_SH, I', J', Pf), 0, 0)) ∧ (∀ I' q, RD I' n q → cBf r I I' → mTake (I 2) n 59 q = .inl (kd, pl) → P (.inl (some (.int 1)), (am_SH, I', J, Pf), 0, 0))
section CG2
variable {d : Nat} {P : am_O → Prop} {J : am_J} {Pf : am_R} {n r : Nat} {b : Nat → Int32}
theorem cPX.bf {I I' : am_I} {j : Nat} {w' : Nat → Int32} {e a' : Nat} (h : cPX r I I' n j w' e a') : cBf r I I' := fun o k e1 e2 e3 => h.2.2 o k e1 (by omega) (by omega) (by omega)
theorem cr_parts (hp : am_PF Pf) (h30 : Pf 3 0 = some 1) (h31 : Pf 3 1 = some r) (hr : r = 16 ∨ r = 55) {cc p : Nat} (hp20 : p < 20) (hc8 : cc ≤ 8) {l1 l2 : Option Value} : ∀ (F : Nat) (I : am_I) (k a : Nat) (w : Nat → Int32) (l5 : Option Value), 6 ≤ F + k → k ≤ 4 → I 2 = b → RD I n a → I 1 5 = 0 → I r 1 = ni cc → I r 2 = ni p → I (r + 2) p = w (32 + 3 * p) → I (r + 3) p = w (32 + 3 * p + 1) → (∀ i, i < k → cGe r I w (4 * p + i) (eP p i)) → (∀ i, i < k → pOK w cc (eP p i)) →
    rm2 (mParts b n cc p F w k a) (fun y => ∀ I', RD I' n y.2.2 → cGp r I' (fu y.1 (32 + 3 * p + 2) (ni y.2.1)) p → I' r 2 = ni (p + 1) → (∀ o k', ¬ (o = 1 ∧ (k' = 3 ∨ k' = 7 ∨ k' = 8 ∨ k' = 9)) → ¬ (o = r ∧ k' = 2) → ¬ (o = r + 4 ∧ k' = p) → ¬ ((o = r + 5 ∨ o = r + 6) ∧ 4 * p ≤ k' ∧ k' < 4 * p + 4) → ¬ (o = r + 7 ∧ 32 * p ≤ k' ∧ k' < 32 * p + 32) → I' o k' = I o k') → P (.inl (some (.int 1)), (am_SH, I', J, Pf), 0, 0)) (fun kd pl => cKf r n P Pf I J kd pl) →
    am_go none (d + 7) 33 (43, [some (.ref 3), l1, l2, some (.int (ni p)), some (.int (ni k)), l5], [], (am_SH, I, J, Pf), 0, 0) P := by
  have hO := cO_le hr
  intro F
  induction F with
  | zero => intro I k a w l5 hF hk; omega
  | succ F ih =>
    intro I k a w l5 hF hk hb h h5 hcc hrp e2 e3 hE hOK kk
    have hq := rsk_le (b := I 2) h.2.2.1
    have hqq := rsk_rsk (b := I 2) h.2.2.1
    have hn := h.2.2.2
    rw [hb] at hq hqq
    unfold mParts at kk
    refine v33_43 hp ?_
    rw [if_neg (fun z => absurd ((glt 4 (by omega) (by omega)).mp z) (by omega))]
    refine ⟨r, h31, rul_sh hr, ni_in (by omega) (by omega), h30, ?_⟩
    rw [ni_nat (by omega)]
    have hR0 : RD (am_u I (r + 4) p (ni k)) n a := h.cr (fun _ _ => am_u_nq (by omega)) h.2.2.1 (by rw [am_u_nq (by omega)]; exact h.2.1)
    have eb : am_u I (r + 4) p (ni k) 2 = b := (am_u_o (by omega)).trans hb
    refine sp_rd_hbb hp hR0 (am_back (v33_67 hp ?_))
    rw [eb]
    generalize hqe : rsk b n a = q at *
    -- the state here
    have gI : ∀ o k', ¬ (o = 1 ∧ k' = 3) → ¬ (o = r + 4 ∧ k' = p) → am_u (am_u I (r + 4) p (ni k)) 1 3 (ni q) o k' = I o k' := fun o k' e1 e2 => by rw [am_u_nq (by omega), am_u_nq (by omega)]
    have gR : RD (am_u (am_u I (r + 4) p (ni k)) 1 3 (ni q)) n q := hR0.at hq.2
    have g4 : am_u (am_u I (r + 4) p (ni k)) 1 3 (ni q) (r + 4) p = ni k := by rw [am_u_nq (by omega), am_u_same]
    have gb : am_u (am_u I (r + 4) p (ni k)) 1 3 (ni q) 2 = b := (am_u_o (by omega)).trans eb
    have gB : cBf r I (am_u (am_u I (r + 4) p (ni k)) 1 3 (ni q)) := fun o k' e1 e2 e3 => gI o k' (by omega) (by omega)
    generalize am_u (am_u I (r + 4) p (ni k)) 1 3 (ni q) = I1 at *
    have m5 : I1 1 5 = 0 := by rw [gI _ _ (by omega) (by omega)]; exact h5
    have z1 : ∀ c : Int32, c ≠ 0 → c ≠ -1 → ((hv b n q = c) ↔ hz b n q = c) := fun c e1 e2 => hv_hz e1 e2
    -- a part
    have go : ∀ x : Int32, hv b n q = x → hz b n q = x → (x = 35 ∨ x = 64 ∨ x = 39) → am_go none (d + 7) 33 (93, [some (.ref 3), l1, l2, some (.int (ni p)), some (.int (ni k)), some (.int x)], [], (am_SH, I1, J, Pf), 0, 0) P := by
      intro x hxv hx hx3
      rw [if_neg (by rw [hx]; rcases hx3 with rfl | rfl | rfl <;> decide), if_pos (by rw [hx]; exact hx3)] at kk
      refine v33_93 hp ?_
      have k4 : (ni k = 4) ↔ k = 4 := leq 4 (by omega) (by omega)
      by_cases c4 : k = 4
      · rw [if_pos c4] at kk
        rw [if_pos (k4.mpr c4)]
        refine ⟨h30, ?_⟩
        rw [if_pos m5, gR.2.1]
        exact (kk (by show q ≤ 600; omega)).1 _ _ (cFF.set gB.fr cJr.rfl')
      · rw [if_neg c4] at kk
        rw [if_neg (fun z => c4 (k4.mp z)), show ni p * 4 + ni k = ni (4 * p + k) from by rw [show (4 : Int32) = ni 4 from rfl, ni_mul, ni_add, Nat.mul_comm]]
        refine sc_part (r := r) (cc := cc) (j := 4 * p + k) (e := eP p k) (w := w) (d := d + 1) hp h30 h31 hr (by omega) hc8 gR m5 (by rw [gI _ _ (by omega) (by omega)]; exact hcc) (by rw [gb]; exact hqq) (by rw [gb]; exact hx) hx3 ?_
        rw [gb]
        cases hm : mPart b n cc w (eP p k) q with
        | inl e =>
          rw [hm] at kk
          intro I' hF hpl
          refine am_back (v33_127 hp ?_)
          rw [if_pos rfl]
          exact (kk hpl).1 _ _ (cFF.after gB.fr cJr.rfl' hF)
        | inr z =>
          rw [hm] at kk
          dsimp only [rb] at kk
          intro I' hX
          refine am_back (v33_127 hp ?_)
          rw [if_neg (by decide), ni_p1]
          obtain ⟨x1, x2, x3⟩ := hX
          obtain ⟨o1, o2⟩ := mPart_ok hm
          have hI' : ∀ o k', ¬ (o = 1 ∧ (k' = 3 ∨ k' = 7 ∨ k' = 8 ∨ k' = 9)) → ¬ (o = r + 4 ∧ k' = p) → ¬ (o = r + 5 ∧ k' = 4 * p + k) → ¬ (o = r + 6 ∧ k' = 4 * p + k) → ¬ (o = r + 7 ∧ 8 * (4 * p + k) ≤ k' ∧ k' < 8 * (4 * p + k) + 8) → I' o k' = I o k' := fun o k' e1 e2 e3 e4 e5 => (x3 o k' e1 e3 e4 e5).trans (gI o k' (by omega) e2)
          have hb' : I' 2 = b := by rw [← hb]; funext k'; exact hI' 2 k' (by omega) (by omega) (by omega) (by omega) (by omega)
          have hB' : cBf r I I' := fun o k' e1 e2 e3 => hI' o k' e1 (by omega) (by omega) (by omega) (by omega)
          refine ih I' (k + 1) z.2 z.1 _ (by omega) (by omega) hb' x1 (by rw [hB' _ _ (by omega) (by omega) (by omega)]; exact h5) (by rw [hI' _ _ (by omega) (by omega) (by omega) (by omega) (by omega)]; exact hcc) (by rw [hI' _ _ (by omega) (by omega) (by omega) (by omega) (by omega)]; exact hrp) (by rw [hI' _ _ (by omega) (by omega) (by omega) (by omega) (by omega), o2 _ (by unfold eP; omega)]; exact e2) (by rw [hI' _ _ (by omega) (by omega) (by omega) (by omega) (by omega), o2 _ (by unfold eP; omega)]; exact e3) (fun i hi => ?_) (fun i hi => ?_) ?_
          · by_cases hik : i = k
            · subst hik; exact x2
            · exact (hE i (by omega)).of (hOK i (by omega)) (hI' _ _ (by omega) (by omega) (by omega) (by omega) (by omega)) (hI' _ _ (by omega) (by omega) (by omega) (by omega) (by omega)) (fun i hi => hI' _ _ (by omega) (by omega) (by omega) (by omega) (by omega)) (fun i hi => o2 _ (Or.inl (by unfold eP; omega)))
          · by_cases hik : i = k
            · subst hik; exact o1
            · exact (hOK i (by omega)).of (Nat.le_refl _) (fun i hi => o2 _ (Or.inl (by unfold eP; omega)))
          · revert kk
            cases mParts b n cc p F z.1 (k + 1) z.2 with
            | inl e => exact fun kk hpl => ⟨fun I'' J'' hF => (kk hpl).1 I'' J'' (cFF.after hB'.fr cJr.rfl' hF), fun I'' q' g1 g2 g3 => (kk hpl).2 I'' q' g1 (hB'.trans g2) (by rw [hb]; rw [hb'] at g3; exact g3)⟩
            | inr y => exact fun kk I'' g1 g2 g3 g4 => kk I'' g1 g2 g3 (fun o k' f1 f2 f3 f4 f5 => (g4 o k' f1 f2 f3 f4 f5).trans (hI' o k' f1 f3 (by omega) (by omega) (by omega)))
    -- no part
    have stop : ¬ (hz b n q = 35 ∨ hz b n q = 64 ∨ hz b n q = 39) → am_go none (d + 7) 33 (138, [some (.ref 3), l1, l2, some (.int (ni p)), some (.int (ni k)), some (.int (hv b n q))], [], (am_SH, I1, J, Pf), 0, 0) P := by
      intro hne
      refine v33_138 hp ⟨r, h31, rul_sh hr, ?_⟩
      have hB' : cBf r I (am_u I1 r 2 (I1 r 2 + 1)) := gB.u (by omega)
      have hR' : RD (am_u I1 r 2 (I1 r 2 + 1)) n q := gR.cr (fun _ _ => am_u_nq (by omega)) hq.2 (by rw [am_u_nq (by omega)]; exact gR.2.1)
      by_cases c59 : hz b n q = 59
      · rw [if_pos c59] at kk
        have gI' : ∀ o k', ¬ (o = 1 ∧ k' = 3) → ¬ (o = r + 4 ∧ k' = p) → ¬ (o = r ∧ k' = 2) → am_u I1 r 2 (I1 r 2 + 1) o k' = I o k' := fun o k' e1 e2 e3 => by rw [am_u_nq (by omega)]; exact gI o k' e1 e2
        refine kk _ hR' ⟨?_, ?_, ?_, fun i hi => ?_⟩ ?_ (fun o k' f1 f2 f3 f4 f5 => gI' o k' (by omega) f3 f2)
        · rw [gI' _ _ (by omega) (by omega) (by omega), fu_n (by omega)]; exact e2
        · rw [gI' _ _ (by omega) (by omega) (by omega), fu_n (by omega)]; exact e3
        · rw [am_u_nq (by omega), g4, fu_s]
        · have hik : i < k := by
            have e9 : wN (fu w (32 + 3 * p + 2) (ni k)) (32 + 3 * p + 2) = k := by unfold wN; rw [fu_s, ni_nat (by omega)]
            exact e9 ▸ hi
          exact (hE i hik).of (hOK i hik) (gI' _ _ (by omega) (by omega) (by omega)) (gI' _ _ (by omega) (by omega) (by omega)) (fun i hi => gI' _ _ (by omega) (by omega) (by omega)) (fun i hi => fu_n (by unfold eP; omega))
        · rw [am_u_same, gI _ _ (by omega) (by omega), hrp, ni_p1]
      · rw [if_neg c59, if_neg hne] at kk
        refine (kk (by show q ≤ 600; omega)).2 _ q hR' hB' ?_
        unfold mTake
        rw [hb, hqq, if_neg c59]
    by_cases c1 : hv b n q = 35
    · rw [if_pos c1]
      have := (z1 _ (by decide) (by decide)).mp c1
      rw [c1]
      exact go 35 c1 this (Or.inl rfl)
    · rw [if_neg c1]
      by_cases c2 : hv b n q = 64
      · rw [if_pos c2]
        have := (z1 _ (by decide) (by decide)).mp c2
        rw [c2]
        exact go 64 c2 this (Or.inr (Or.inl rfl))
      · rw [if_neg c2]
        by_cases c3 : hv b n q = 39
        · rw [if_pos c3]
          have := (z1 _ (by decide) (by decide)).mp c3
          rw [c3]
          exact go 39 c3 this (Or.inr (Or.inr rfl))
        · rw [if_neg c3]
          exact stop (by
            rintro (z | z | z)
            · exact c1 ((z1 _ (by decide) (by decide)).mpr z)
            · exact c2 ((z1 _ (by decide) (by decide)).mpr z)
            · exact c3 ((z1 _ (by decide) (by decide)).mpr z))
variable {I : am_I} {a : Nat}
theorem sc_prod (hp : am_PF Pf) (h30 : Pf 3 0 = some 1) (h31 : Pf 3 1 = some r) (hr : r = 16 ∨ r = 55) {cc p : Nat} {rule : Int32} {w : Nat → Int32} (hrl : rule = 0 ∨ rule = 1) (hp20 : p < 20) (hc8 : cc ≤ 8) (h : RD I n a) (h5 : I 1 5 = 0) (hcc : I r 1 = ni cc) (hrp : I r 2 = ni p)
    (kk : rm2 (mProd (I 2) n cc w p rule a) (fun z => ∀ I', RD I' n z.2 → cGp r I' z.1 p → I' r 2 = ni (p + 1) → (∀ o k', ¬ (o = 1 ∧ (k' = 3 ∨ k' = 7 ∨ k' = 8 ∨ k' = 9)) → ¬ (o = r ∧ k' = 2) → ¬ ((o = r + 2 ∨ o = r + 3 ∨ o = r + 4) ∧ k' = p) → ¬ ((o = r + 5 ∨ o = r + 6) ∧ 4 * p ≤ k' ∧ k' < 4 * p + 4) → ¬ (o = r + 7 ∧ 32 * p ≤ k' ∧ k' < 32 * p + 32) → I' o k' = I o k') → P (.inl (some (.int 1)), (am_SH, I', J, Pf), 0, 0)) (fun kd pl => cKf r n P Pf I J kd pl)) :
    am_mth (d + 8) 33 [.ref 3, .int rule] (am_SH, I, J, Pf) P := by
  have hO := cO_le hr
  unfold mProd at kk
  refine am_mth_of rfl rfl (v33_0 hp (sc_sort (r := r) (d := d + 4) hp h30 h h5 ?_))
  cases hm : mNum (I 2) n 8 a with
  | inl e =>
    rw [hm] at kk
    intro I' hF hpl
    refine am_back (v33_4 hp ?_)
    rw [if_pos rfl]
    exact (kk hpl).1 _ _ hF
  | inr z =>
    rw [hm] at kk
    have hz8 := (mNum_lt hm).2
    dsimp only [rb] at kk
    intro I' hR hf _ _
    refine am_back (v33_4 hp ?_)
    rw [if_neg (ni_neg1 (by omega))]
    have e2 : I' r 2 = ni p := by rw [hf _ _ (by omega)]; exact hrp
    refine ⟨r, h31, rul_sh hr, by rw [e2]; exact ni_in (by omega) hp20, by rw [e2]; exact ni_in (by omega) hp20, hrl, ?_⟩
    rw [e2, ni_nat (by omega)]
    have gI : ∀ o k', ¬ (o = 1 ∧ (k' = 3 ∨ k' = 7 ∨ k' = 8 ∨ k' = 9)) → ¬ ((o = r + 2 ∨ o = r + 3) ∧ k' = p) → am_u (am_u I' (r + 2) p (ni z.1)) (r + 3) p rule o k' = I o k' := fun o k' e1 e2 => by rw [am_u_nq (by omega), am_u_nq (by omega), hf o k' e1]
    have gB : cBf r I (am_u (am_u I' (r + 2) p (ni z.1)) (r + 3) p rule) := fun o k' e1 e2 e3 => gI o k' e1 (by omega)
    have eb : am_u (am_u I' (r + 2) p (ni z.1)) (r + 3) p rule 2 = I 2 := by funext k'; exact gI _ _ (by omega) (by omega)
    refine cr_parts (n := n) (b := I 2) (d := d) hp h30 h31 hr hp20 hc8 6 _ 0 z.2 (fu (fu w (32 + 3 * p) (ni z.1)) (32 + 3 * p + 1) rule) _ (by omega) (by omega) eb ?_ (by rw [gI _ _ (by omega) (by omega)]; exact h5) (by rw [gI _ _ (by omega) (by omega)]; exact hcc) (by rw [gI _ _ (by omega) (by omega)]; exact hrp) ?_ ?_ (fun i hi => absurd hi (by omega)) (fun i hi => absurd hi (by omega)) ?_
    · exact hR.cr (fun _ _ => by rw [am_u_nq (by omega), am_u_nq (by omega)]) hR.2.2.1 (by rw [am_u_nq (by omega), am_u_nq (by omega)]; exact hR.2.1)
    · rw [am_u_nq (by omega), am_u_same, fu_n (by omega), fu_s]
    · rw [am_u_same, fu_s]
    · revert kk
      cases mParts (I 2) n cc p 6 (fu (fu w (32 + 3 * p) (ni z.1)) (32 + 3 * p + 1) rule) 0 z.2 with
      | inl e => exact fun kk hpl => ⟨fun I'' J'' hF => (kk hpl).1 I'' J'' (cFF.after gB.fr cJr.rfl' hF), fun I'' q' g1 g2 g3 => (kk hpl).2 I'' q' g1 (gB.trans g2) (by rw [eb] at g3; exact g3)⟩
      | inr y => exact fun kk I'' g1 g2 g3 g4 => kk I'' g1 g2 g3 (fun o k' f1 f2 f3 f4 f5 => (g4 o k' f1 f2 (by omega) f4 f5).trans (gI o k' f1 (by omega)))
theorem sc_not (hp : am_PF Pf) (h30 : Pf 3 0 = some 1) (h31 : Pf 3 1 = some r) (hr : r = 16 ∨ r = 55) {cc k : Nat} {w : Nat → Int32} (hk : k < 8) (hc8 : cc ≤ 8) (h : RD I n a) (h5 : I 1 5 = 0) (hcc : I r 1 = ni cc) (hrk : I r 13 = ni k)
    (kk : rm2 (mNot (I 2) n cc w k a) (fun z => ∀ I', RD I' n z.2 → cGn r I' z.1 k → I' r 13 = ni (k + 1) → (∀ o k', ¬ (o = 1 ∧ (k' = 3 ∨ k' = 7 ∨ k' = 8 ∨ k' = 9)) → ¬ (o = r ∧ k' = 13) → ¬ ((o = r + 11 ∨ o = r + 12) ∧ k' = k) → I' o k' = I o k') → P (.inl (some (.int 1)), (am_SH, I', J, Pf), 0, 0)) (fun kd pl => cKf r n P Pf I J kd pl)) :
    am_mth (d + 4) 36 [.ref 3] (am_SH, I, J, Pf) P := by
  have hO := cO_le hr
  unfold mNot at kk
  refine am_mth_of rfl rfl (v36_0 hp (sc_sort (r := r) (d := d) hp h30 h h5 ?_))
  cases hm : mNum (I 2) n 8 a with
  | inl e =>
    rw [hm] at kk
    intro I' hF hpl
    refine am_back (v36_4 hp ?_)
    rw [if_pos rfl]
    exact (kk hpl).1 _ _ hF
  | inr z =>
    rw [hm] at kk
    have hz8 := (mNum_lt hm).2
    dsimp only [rb] at kk
    intro I' hR hf _ _
    refine am_back (v36_4 hp ?_)
    rw [if_neg (ni_neg1 (by omega))]
    have eb : I' 2 = I 2 := by funext k'; exact hf _ _ (by omega)
    refine sc_class (r := r) (d := d) hp h30 h31 (rul_sh hr) hc8 (by rw [hf _ _ (by omega)]; exact hcc) (by omega) hR (by rw [hf _ _ (by omega)]; exact h5) ?_
    rw [eb]
    cases hm2 : mCl (I 2) n cc z.2 with
    | inl e =>
      rw [hm2] at kk
      intro I'' hF hpl
      refine am_back (v36_16 hp ?_)
      rw [if_pos rfl]
      exact (kk hpl).1 _ _ (cFF.after hf.fr cJr.rfl' hF)
    | inr y =>
      rw [hm2] at kk
      dsimp only [rb] at kk
      intro I'' hR2 hf2 hlt2 _
      have hf3 := hf.trans hf2
      have e13 : I'' r 13 = ni k := by rw [hf3 _ _ (by omega)]; exact hrk
      refine am_back (v36_16 hp ?_)
      rw [if_neg (ni_neg1 (by omega))]
      refine ⟨r, h31, rul_sh hr, by rw [e13]; exact ni_in (by omega) hk, by rw [am_u_nq (by omega), e13]; exact ni_in (by omega) hk, ?_⟩
      rw [am_u_nq (by omega), am_u_nq (by omega), am_u_nq (by omega), e13, ni_nat (by omega), ni_p1]
      refine kk _ ?_ ⟨?_, ?_⟩ am_u_same (fun o k' f1 f2 f3 => ?_)
      · exact hR2.cr (fun _ _ => by rw [am_u_nq (by omega), am_u_nq (by omega), am_u_nq (by omega)]) hR2.2.2.1 (by rw [am_u_nq (by omega), am_u_nq (by omega), am_u_nq (by omega)]; exact hR2.2.1)
      · dsimp only; rw [am_u_nq (by omega), am_u_nq (by omega), am_u_same, fu_n (by omega), fu_s]
      · dsimp only; rw [am_u_nq (by omega), am_u_same, fu_s]
      · rw [am_u_nq (by omega), am_u_nq (by omega), am_u_nq (by omega)]
        exact hf3 o k' f1
theorem sc_lay (hp : am_PF Pf) (h30 : Pf 3 0 = some 1) (h31 : Pf 3 1 = some r) (hr : r = 16 ∨ r = 55) {cc : Nat} (hc8 : cc ≤ 8) (h : RD I n a) (h5 : I 1 5 = 0) (hcc : I r 1 = ni cc)
    (kk : rm2 (mCl (I 2) n cc a) (fun z => ∀ I', RD I' n z.2 → I' r 19 = ni z.1 → (∀ o k', ¬ (o = 1 ∧ (k' = 3 ∨ k' = 7 ∨ k' = 8 ∨ k' = 9)) → ¬ (o = r ∧ k' = 19) → I' o k' = I o k') → P (.inl (some (.int 1)), (am_SH, I', J, Pf), 0, 0)) (fun kd pl => cKf r n P Pf I J kd pl)) :
    am_mth (d + 4) 38 [.ref 3] (am_SH, I, J, Pf) P := by
  have hO := cO_le hr
  refine am_mth_of rfl rfl (v38_0 hp (sc_class (r := r) (d := d) hp h30 h31 (rul_sh hr) hc8 hcc (by omega) h h5 ?_))
  cases hm : mCl (I 2) n cc a with
  | inl e =>
    rw [hm] at kk
    intro I' hF hpl
    refine am_back (v38_4 hp ?_)
    rw [if_pos rfl]
    exact (kk hpl).1 _ _ hF
  | inr z =>
    rw [hm] at kk
    intro I' hR hf hlt _
    refine am_back (v38_4 hp ?_)
    rw [if_neg (ni_neg1 (by omega))]
    refine ⟨r, h31, rul_sh hr, kk _ ?_ am_u_same (fun o k' f1 f2 => ?_)⟩
    · exact hR.cr (fun _ _ => by rw [am_u_nq (by omega)]) hR.2.2.1 (by rw [am_u_nq (by omega)]; exact hR.2.1)
    · rw [am_u_nq (by omega)]; exact hf o k' f1
theorem sc_drop (hp : am_PF Pf) (h30 : Pf 3 0 = some 1) (h31 : Pf 3 1 = some r) (hr : r = 16 ∨ r = 55) {k pl0 c : Nat} {w : Nat → Int32} (hk : k < 8) (h : RD I n a) (h5 : I 1 5 = 0) (hrk : I r 16 = ni k) (h7 : I 1 7 = ni pl0) (hcl : I 3 2 = ni c)
    (kk : rm2 (mDrop (I 2) n w k pl0 c a) (fun z => ∀ I', RD I' n z.2 → cGd r I' z.1 k → cGx I' z.1 k → I' r 16 = ni (k + 1) → (∀ o k', ¬ (o = 1 ∧ (k' = 3 ∨ k' = 7 ∨ k' = 8 ∨ k' = 9)) → ¬ (o = r ∧ k' = 16) → ¬ ((o = r + 13 ∨ o = r + 14 ∨ o = 5 ∨ o = 6) ∧ k' = k) → I' o k' = I o k') → P (.inl (some (.int 1)), (am_SH, I', J, Pf), 0, 0)) (fun kd pl => cKf r n P Pf I J kd pl)) :
    am_mth (d + 4) 37 [.ref 3] (am_SH, I, J, Pf) P := by
  have hO := cO_le hr
  have hn := h.2.2.2
  unfold mDrop at kk
  refine am_mth_of rfl rfl (v37_0 hp ⟨r, h31, rul_sh hr, h30, by rw [hrk]; exact ni_in (by omega) hk, by rw [hrk]; exact ni_in (by omega) hk, ?_⟩)
  rw [hrk, ni_nat (by omega), h7, hcl]
  have gI : ∀ o k', ¬ ((o = 5 ∨ o = 6) ∧ k' = k) → am_u (am_u I 5 k (ni pl0)) 6 k (ni c) o k' = I o k' := fun o k' e => by rw [am_u_nq (by omega), am_u_nq (by omega)]
  have g5 : am_u (am_u I 5 k (ni pl0)) 6 k (ni c) 5 k = ni pl0 := by rw [am_u_nq (by omega), am_u_same]
  have g6 : am_u (am_u I 5 k (ni pl0)) 6 k (ni c) 6 k = ni c := am_u_same
  have gB : cBf r I (am_u (am_u I 5 k (ni pl0)) 6 k (ni c)) := fun o k' e1 e2 e3 => gI o k' (by omega)
  generalize am_u (am_u I 5 k (ni pl0)) 6 k (ni c) = I1 at *
  have eb : I1 2 = I 2 := by funext k'; exact gI _ _ (by omega)
  have hR1 : RD I1 n a := h.cr (fun _ e => by rw [gI _ _ (by omega)]) h.2.2.1 (by rw [gI _ _ (by omega)]; exact h.2.1)
  refine sc_sort (r := r) (d := d) hp h30 hR1 (by rw [gI _ _ (by omega)]; exact h5) ?_
  rw [eb]
  cases hm : mNum (I 2) n 8 a with
  | inl e =>
    rw [hm] at kk
    intro I' hF hpl
    refine am_back (v37_35 hp ?_)
    rw [if_pos rfl]
    exact (kk hpl).1 _ _ (cFF.after gB.fr cJr.rfl' hF)
  | inr z =>
    rw [hm] at kk
    have hz8 := (mNum_lt hm).2
    dsimp only [rb] at kk
    intro I' hR hf _ _
    refine am_back (v37_35 hp ?_)
    rw [if_neg (ni_neg1 (by omega))]
    have eb' : I' 2 = I 2 := by rw [← eb]; funext k'; exact hf _ _ (by omega)
    refine sc_sort (r := r) (d := d) hp h30 hR (by rw [hf _ _ (by omega), gI _ _ (by omega)]; exact h5) ?_
    rw [eb']
    cases hm2 : mNum (I 2) n 8 z.2 with
    | inl e =>
      rw [hm2] at kk
      intro I'' hF hpl
      refine am_back (v37_47 hp ?_)
      rw [if_pos rfl]
      exact (kk hpl).1 _ _ (cFF.after (gB.fr.trans hf.fr) cJr.rfl' hF)
    | inr y =>
      rw [hm2] at kk
      have hy8 := (mNum_lt hm2).2
      have hq := rsk_le (b := I 2) hR.2.2.1
      dsimp only [rb] at kk
      intro I'' hR2 hf2 h8 _
      have hf3 : ∀ o k', ¬ (o = 1 ∧ (k' = 3 ∨ k' = 7 ∨ k' = 8 ∨ k' = 9)) → ¬ ((o = 5 ∨ o = 6) ∧ k' = k) → I'' o k' = I o k' := fun o k' e1 e2 => (hf2 o k' e1).trans ((hf o k' e1).trans (gI o k' e2))
      refine am_back (v37_47 hp ?_)
      rw [if_neg (ni_neg1 (by omega))]
      have cc : (ni y.1 = ni z.1) ↔ y.1 = z.1 := ni_inj (by omega) (by omega)
      by_cases ce : y.1 = z.1
      · rw [if_pos ce] at kk
        rw [if_pos (cc.mpr ce)]
        refine ⟨h30, ?_⟩
        rw [if_pos (by rw [hf3 _ _ (by omega) (by omega)]; exact h5), h8]
        exact (kk (by show rsk (I 2) n z.2 ≤ 600; omega)).1 _ _ (cFF.set (gB.fr.trans (hf.fr.trans hf2.fr)) cJr.rfl')
      · rw [if_neg ce] at kk
        rw [if_neg (fun z => ce (cc.mp z))]
        refine ⟨r, h31, rul_sh hr, ni_in (by omega) hk, ni_in (by omega) hk, ?_⟩
        rw [ni_nat (by omega), am_u_nq (by omega), am_u_nq (by omega), hf3 r 16 (by omega) (by omega), hrk, ni_p1]
        refine kk _ ?_ ⟨?_, ?_⟩ ⟨?_, ?_⟩ am_u_same (fun o k' f1 f2 f3 => ?_)
        · exact hR2.cr (fun _ _ => by rw [am_u_nq (by omega), am_u_nq (by omega), am_u_nq (by omega)]) hR2.2.2.1 (by rw [am_u_nq (by omega), am_u_nq (by omega), am_u_nq (by omega)]; exact hR2.2.1)
        · dsimp only; rw [am_u_nq (by omega), am_u_nq (by omega), am_u_same, fu_n (by omega), fu_n (by omega), fu_n (by omega), fu_s]
        · dsimp only; rw [am_u_nq (by omega), am_u_same, fu_n (by omega), fu_n (by omega), fu_s]
        · dsimp only; rw [am_u_nq (by omega), am_u_nq (by omega), am_u_nq (by omega), hf2 _ _ (by omega), hf _ _ (by omega), g5, fu_n (by omega), fu_s]
        · dsimp only; rw [am_u_nq (by omega), am_u_nq (by omega), am_u_nq (by omega), hf2 _ _ (by omega), hf _ _ (by omega), g6, fu_s]
        · rw [am_u_nq (by omega), am_u_nq (by omega), am_u_nq (by omega)]
          exact hf3 o k' f1 (by omega)
end CG2
