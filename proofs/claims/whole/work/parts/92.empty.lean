/-! What sorts can be empty -/
def allB : Nat → (Nat → Bool) → Bool
  | 0, _ => true
  | n + 1, f => allB n f && f n
theorem allB_iff {f : Nat → Bool} : ∀ n, (allB n f = true) ↔ ∀ i, i < n → f i = true
  | 0 => ⟨fun _ i h => absurd h (by omega), fun _ => rfl⟩
  | n + 1 => by
    unfold allB
    rw [Bool.and_eq_true, allB_iff n]
    constructor
    · rintro ⟨h1, h2⟩ i hi
      by_cases c : i = n
      · subst c; exact h2
      · exact h1 i (by omega)
    · intro h
      exact ⟨fun i hi => h i (by omega), h n (by omega)⟩
theorem lfp8 {X : Nat → Nat → Bool} {T : Nat → Prop} (hm : ∀ j t, t < 8 → X j t = true → X (j + 1) t = true) (hc : ∀ j, (∀ t, t < 8 → X (j + 1) t = X j t) → ∀ t, t < 8 → T t → X j t = true) : ∀ t, t < 8 → T t → X 8 t = true := by
  refine chain8 hm (fun j => ?_)
  by_cases c : ∃ t, t < 8 ∧ X j t = false ∧ X (j + 1) t = true
  · exact Or.inr c
  · left
    refine hc j (fun t ht => ?_)
    cases h1 : X j t with
    | true => exact hm j t ht h1
    | false =>
      cases h2 : X (j + 1) t with
      | true => exact absurd ⟨t, ht, h1, h2⟩ c
      | false => rfl
/-- part k of production p is a sort that can be empty -/
def emPt (w : Nat → Int32) (E : Nat → Bool) (p k : Nat) : Bool := decide (w (eP p k) = 1) && E (wN w (eP p k + 1))
def emOk (w : Nat → Int32) (p n : Nat) (E : Nat → Bool) : Bool := allB n (emPt w E p)
def emP (w : Nat → Int32) (p : Nat) (E : Nat → Bool) : Nat → Bool := fun s => E s || (decide (wN w (32 + 3 * p) = s) && emOk w p (wN w (32 + 3 * p + 2)) E)
def emR (w : Nat → Int32) (m : Nat) (E : Nat → Bool) : Nat → Bool := foldN m (emP w) E
def emX (w : Nat → Int32) (j : Nat) : Nat → Bool := foldN j (fun _ E => emR w (wN w 1) E) (fun _ => false)
def emT (w : Nat → Int32) (s : Nat) : Prop := ∀ E : Nat → Bool, (∀ p, p < wN w 1 → emOk w p (wN w (32 + 3 * p + 2)) E = true → E (wN w (32 + 3 * p)) = true) → E s = true
theorem emOk_mono {w : Nat → Int32} {p n : Nat} {E F : Nat → Bool} (h : ∀ s, E s = true → F s = true) (g : emOk w p n E = true) : emOk w p n F = true := by
  unfold emOk at *
  rw [allB_iff] at *
  intro i hi
  have := g i hi
  unfold emPt at *
  rw [Bool.and_eq_true] at *
  exact ⟨this.1, h _ this.2⟩
theorem emP_up {w : Nat → Int32} {p : Nat} {E : Nat → Bool} {s : Nat} (h : E s = true) : emP w p E s = true := by unfold emP; rw [h]; rfl
theorem emR_p {w : Nat → Int32} {m : Nat} {E : Nat → Bool} : (∀ s, E s = true → emR w m E s = true) ∧ ∀ p, p < m → emOk w p (wN w (32 + 3 * p + 2)) E = true → emR w m E (wN w (32 + 3 * p)) = true := by
  refine foldN_ind (Q := fun (k : Nat) (y : Nat → Bool) => (∀ s, E s = true → y s = true) ∧ ∀ p, p < k → emOk w p (wN w (32 + 3 * p + 2)) E = true → y (wN w (32 + 3 * p)) = true) ⟨fun _ h => h, fun p hp => absurd hp (by omega)⟩ (fun k y hk hy => ⟨fun s h => emP_up (hy.1 s h), fun p hp h => ?_⟩)
  by_cases c : p = k
  · subst c
    unfold emP
    rw [decide_eq_true rfl, emOk_mono hy.1 h]
    simp
  · exact emP_up (hy.2 p (by omega) h)
theorem emX_up {w : Nat → Int32} {j s : Nat} (h : emX w j s = true) : emX w (j + 1) s = true := emR_p.1 s h
theorem emX_T {w : Nat → Int32} {j s : Nat} (h : emX w j s = true) : emT w s := by
  intro E hE
  have := foldN_ind (n := j) (f := fun _ E => emR w (wN w 1) E) (a := fun _ => false) (Q := fun _ (y : Nat → Bool) => ∀ s, y s = true → E s = true) (fun s h => by cases h) (fun k y hk hy => foldN_ind (Q := fun _ (z : Nat → Bool) => ∀ s, z s = true → E s = true) hy (fun p z hp hz s h => by
    unfold emP at h
    rw [Bool.or_eq_true, Bool.and_eq_true, decide_eq_true_iff] at h
    rcases h with h | ⟨rfl, h⟩
    · exact hz s h
    · exact hE p hp (emOk_mono hz h)))
  exact this s h
theorem emT_X {w : Nat → Int32} (hG : WG w) : ∀ t, t < 8 → emT w t → emX w 8 t = true :=
  lfp8 (X := fun j => emX w j) (fun j t _ h => emX_up h) (fun j he t ht hT => hT _ (fun p hp h => by rw [← he _ (hG.pr hp).1]; exact emR_p.2 p hp h))
theorem emX_lt {w : Nat → Int32} (hG : WG w) {j s : Nat} (h : emX w j s = true) : s < 8 := by
  have := emX_T h (fun s => decide (s < 8)) (fun p hp _ => decide_eq_true (hG.pr hp).1)
  exact of_decide_eq_true this
/-- the ninth round adds nothing -/
theorem emX_9 {w : Nat → Int32} (hG : WG w) (s : Nat) : emX w 9 s = emX w 8 s := by
  rw [Bool.eq_iff_iff]
  exact ⟨fun h => emT_X hG s (emX_lt hG h) (emX_T h), emX_up⟩
theorem ePn (p k : Nat) : 92 + (4 * ni p + ni k) * 11 = ni (eP p k) := by
  rw [show (4 : Int32) = ni 4 from rfl, show (11 : Int32) = ni 11 from rfl, show (92 : Int32) = ni 92 from rfl, ni_mul, ni_add, ni_mul, ni_add]; rfl
section EM
variable {d0 : Nat} {P : am_O → Prop} {J : am_J} {Pf : am_R} {w : Nat → Int32} {r : Nat}
/-- the class: one round -/
theorem sc_empty (hp : am_PF Pf) (hr : r = 16 ∨ r = 55) (hG : WG w) {I : am_I} (hw : cG r I J w) {E : Nat → Bool} (hE : ∀ t, t < 32 → bI (I (r + 15) 5) t = E t)
    (kk : ∀ I', (∀ t, t < 32 → bI (I' (r + 15) 5) t = emR w (wN w 1) E t) → (∀ o k, ¬ (o = r + 15 ∧ k = 5) → I' o k = I o k) → P (.inl none, (am_SH, I', J, Pf), 0, 0)) : am_mth (d0 + 2) 94 [.ref (r + 15), .ref r] (am_SH, I, J, Pf) P := by
  obtain ⟨⟨w0, w0'⟩, ⟨w1, w1'⟩, -, -, -, wk⟩ := id hG.1
  have s15 := (srt_sh hr).1
  have hrs := rul_sh hr
  obtain ⟨⟨c0, c1, c2, c3, c4, c5⟩, -, hP, -, -, -⟩ := id hw
  have LE : ∀ (m : Nat) (I1 : am_I) (p k : Nat) (F : Nat → Bool), wN w (32 + 3 * p + 2) - k = m → k ≤ wN w (32 + 3 * p + 2) → p < wN w 1 → (∀ t, t < 32 → bI (I1 (r + 15) 5) t = F t) → (∀ o k, ¬ (o = r + 15 ∧ k = 5) → I1 o k = I o k) → (∀ (I' : am_I) (l3 l4 : Option Value), (∀ t, t < 32 → bI (I' (r + 15) 5) t = emP w p F t) → (∀ o k, ¬ (o = r + 15 ∧ k = 5) → I' o k = I o k) → am_go none (d0 + 1) 94 (2, [some (.ref (r + 15)), some (.ref r), some (.int (ni (p + 1))), l3, l4], [], (am_SH, I', J, Pf), 0, 0) P) → am_go none (d0 + 1) 94 (17, [some (.ref (r + 15)), some (.ref r), some (.int (ni p)), some (.int (b2 (emOk w p k F))), some (.int (ni (4 * p + k)))], [], (am_SH, I1, J, Pf), 0, 0) P := by
    intro m
    induction m with
    | zero =>
      intro I1 p k F hm hk hpp hF hf kk
      have : k = wN w (32 + 3 * p + 2) := by omega
      subst this
      obtain ⟨g1, g2, g3, g4, g5, g6⟩ := hG.pr (p := p) hpp
      obtain ⟨q1, q2, q3, q4⟩ := hP p hpp
      refine v94_17 hp s15 hrs ?_
      rw [show (ni p).toNatClampNeg = p from ni_nat (by omega), hf (r + 4) p (by omega), q3, g4, show ni p * 4 = ni (4 * p) by rw [Nat.mul_comm]; exact ni_mul p 4, ni_add, if_pos ((ni_le (by omega) (by omega)).mpr (by omega)), hf (r + 2) p (by omega), q1, g2, ni_p1]
      refine ⟨ni_in (by omega) (by omega), ?_⟩
      cases c : emOk w p (wN w (32 + 3 * p + 2)) F with
      | false =>
        rw [if_pos (show b2 false = 0 from rfl)]
        refine kk I1 _ _ (fun t ht => ?_) hf
        rw [hF t ht]
        unfold emP
        rw [c, Bool.and_false, Bool.or_false]
      | true =>
        rw [if_neg (show ¬ b2 true = 0 by decide)]
        refine ⟨ni_in (by omega) (by omega), kk _ _ _ (fun t ht => ?_) (fun o k e => (am_u_nq (by omega)).trans (hf o k e))⟩
        rw [am_u_same, bI_or, hF t ht, bI_one (by omega) ht]
        unfold emP
        rw [c, Bool.and_true, decide_eq_decide.mpr (eq_comm (a := t))]
    | succ m ih =>
      intro I1 p k F hm hk hpp hF hf kk
      obtain ⟨g1, g2, g3, g4, g5, g6⟩ := hG.pr (p := p) hpp
      obtain ⟨q1, q2, q3, q4⟩ := hP p hpp
      obtain ⟨e1, e2, e3⟩ := q4 k (by omega)
      refine v94_17 hp s15 hrs ?_
      rw [show (ni p).toNatClampNeg = p from ni_nat (by omega), hf (r + 4) p (by omega), q3, g4, show ni p * 4 = ni (4 * p) by rw [Nat.mul_comm]; exact ni_mul p 4, ni_add, if_neg (fun z => absurd ((ni_le (by omega) (by omega)).mp z) (by omega)), show (ni (4 * p + k)).toNatClampNeg = 4 * p + k from ni_nat (by omega), hf (r + 5) (4 * p + k) (by omega), e1, hf (r + 6) (4 * p + k) (by omega), ni_p1]
      refine ⟨ni_in (by omega) (by omega), ni_in (by omega) (by omega), ?_⟩
      have e9 : emOk w p (k + 1) F = (emOk w p k F && emPt w F p k) := rfl
      have goon := fun (v : Int32) (hv : v = b2 (emOk w p (k + 1) F)) => hv ▸ ih I1 p (k + 1) F (by omega) (by omega) hpp hF hf kk
      by_cases c : w (eP p k) = 1
      · rw [if_pos c]
        obtain ⟨h1, h2⟩ := WG.so (g6 k (by omega)) c
        rw [e2 (by rw [c]; decide), h2]
        have hbit := bI_us (v := I1 (r + 15) 5) (j := wN w (eP p k + 1)) (by omega)
        rw [hF _ (by omega)] at hbit
        have ep : emPt w F p k = F (wN w (eP p k + 1)) := by unfold emPt; rw [decide_eq_true c, Bool.true_and]
        refine ⟨ni_in (by omega) (by omega), ?_⟩
        by_cases c2 : F (wN w (eP p k + 1)) = true
        · rw [if_neg (fun z => hbit.mp z c2)]
          exact goon _ (by rw [e9, ep, c2, Bool.and_true])
        · rw [if_pos (hbit.mpr c2)]
          exact goon _ (by rw [e9, ep, (Bool.not_eq_true _).mp c2, Bool.and_false]; rfl)
      · rw [if_neg c]
        exact goon _ (by rw [e9]; unfold emPt; rw [decide_eq_false c, Bool.false_and, Bool.and_false]; rfl)
  have LP : ∀ (m : Nat) (I1 : am_I) (p : Nat) (l3 l4 : Option Value), wN w 1 - p = m → p ≤ wN w 1 → (∀ t, t < 32 → bI (I1 (r + 15) 5) t = emR w p E t) → (∀ o k, ¬ (o = r + 15 ∧ k = 5) → I1 o k = I o k) → am_go none (d0 + 1) 94 (2, [some (.ref (r + 15)), some (.ref r), some (.int (ni p)), l3, l4], [], (am_SH, I1, J, Pf), 0, 0) P := by
    intro m
    induction m with
    | zero =>
      intro I1 p l3 l4 hm hpp hF hf
      have : p = wN w 1 := by omega
      subst this
      refine v94_2 hp s15 hrs ?_
      rw [hf r 2 (by omega), c1, w1, if_pos ((ni_le (by omega) (by omega)).mpr (by omega))]
      exact kk I1 hF hf
    | succ m ih =>
      intro I1 p l3 l4 hm hpp hF hf
      refine v94_2 hp s15 hrs ?_
      rw [hf r 2 (by omega), c1, w1, if_neg (fun z => absurd ((ni_le (by omega) (by omega)).mp z) (by omega)), show ni p * 4 = ni (4 * p + 0) by rw [Nat.add_zero, Nat.mul_comm]; exact ni_mul p 4]
      exact LE _ I1 p 0 _ rfl (Nat.zero_le _) (by omega) hF hf (fun I' l3 l4 f1 f2 => ih I' (p + 1) l3 l4 (by omega) (by omega) f1 f2)
  refine am_mth_of rfl rfl (v94_0 hp s15 hrs ?_)
  rw [show (0 : Int32) = ni 0 from rfl]
  exact LP _ I 0 _ _ rfl (Nat.zero_le _) hE (fun _ _ _ => rfl)
/-- the reference: can a production be empty -/
theorem sr_canempty (hp : am_PF Pf) (hG : WG w) {I : am_I} (hw : I 167 = w) {E : Nat → Bool} (hE : ∀ t, t < 8 → I 190 t = b2 (E t)) {p : Nat} (hpp : p < wN w 1)
    (kk : P (.inl (some (.int (b2 (emOk w p (wN w (32 + 3 * p + 2)) E)))), (am_SH, I, J, Pf), 0, 0)) : am_mth (d0 + 1) 280 [.ref 163, .int (ni p)] (am_SH, I, J, Pf) P := by
  have w1' := hG.1.2.1.2
  obtain ⟨g1, g2, g3, g4, g5, g6⟩ := hG.pr (p := p) hpp
  have LE : ∀ (m k : Nat) (l3 : Option Value), wN w (32 + 3 * p + 2) - k = m → k ≤ wN w (32 + 3 * p + 2) → emOk w p k E = true → am_go none d0 280 (2, [some (.ref 163), some (.int (ni p)), some (.int (ni k)), l3], [], (am_SH, I, J, Pf), 0, 0) P := by
    intro m
    induction m with
    | zero =>
      intro k l3 hm hk hA
      have : k = wN w (32 + 3 * p + 2) := by omega
      subst this
      refine v280_2 hp ?_
      rw [i3, ni_p2, show (ni (32 + 3 * p + 2)).toNatClampNeg = 32 + 3 * p + 2 from ni_nat (by omega), hw, g4, if_pos ((ni_le (by omega) (by omega)).mpr (by omega))]
      refine ⟨ni_in (by omega) (by omega), ?_⟩
      rw [hA] at kk
      exact kk
    | succ m ih =>
      intro k l3 hm hk hA
      refine v280_2 hp ?_
      rw [i3, ni_p2, show (ni (32 + 3 * p + 2)).toNatClampNeg = 32 + 3 * p + 2 from ni_nat (by omega), hw, g4, if_neg (fun z => absurd ((ni_le (by omega) (by omega)).mp z) (by omega)), ePn, ni_p1, show (ni (eP p k)).toNatClampNeg = eP p k from ni_nat (by unfold eP; omega), show (ni (eP p k + 1)).toNatClampNeg = eP p k + 1 from ni_nat (by unfold eP; omega), ni_p1]
      refine ⟨ni_in (by omega) (by omega), ni_in (by unfold eP; omega) (by unfold eP; omega), ?_⟩
      have no : emPt w E p k = false → P (.inl (some (.int 0)), (am_SH, I, J, Pf), 0, 0) := by
        intro h
        have : emOk w p (wN w (32 + 3 * p + 2)) E = false := by
          cases h2 : emOk w p (wN w (32 + 3 * p + 2)) E with
          | false => rfl
          | true =>
            have := (allB_iff _).mp h2 k (by omega)
            rw [h] at this
            cases this
        rw [this] at kk
        exact kk
      by_cases c : w (eP p k) = 1
      · rw [if_pos c]
        obtain ⟨h1, h2⟩ := WG.so (g6 k (by omega)) c
        rw [h2, show (ni (wN w (eP p k + 1))).toNatClampNeg = wN w (eP p k + 1) from ni_nat (by omega), hE _ h1]
        have ep : emPt w E p k = E (wN w (eP p k + 1)) := by unfold emPt; rw [decide_eq_true c, Bool.true_and]
        refine ⟨ni_in (by unfold eP; omega) (by unfold eP; omega), ni_in (by omega) h1, ?_⟩
        cases c2 : E (wN w (eP p k + 1)) with
        | true =>
          rw [if_neg (show ¬ b2 true = 0 by decide)]
          refine ih (k + 1) _ (by omega) (by omega) ?_
          show (emOk w p k E && emPt w E p k) = true
          rw [hA, ep, c2]; rfl
        | false =>
          rw [if_pos (show b2 false = 0 from rfl)]
          exact no (by rw [ep, c2])
      · rw [if_neg c]
        exact no (by unfold emPt; rw [decide_eq_false c, Bool.false_and])
  refine am_mth_of rfl rfl (v280_0 hp ?_)
  rw [show (0 : Int32) = ni 0 from rfl]
  exact LE _ 0 _ rfl (Nat.zero_le _) rfl
end EM
