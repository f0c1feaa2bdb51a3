/-! The reference's heights: one sort's turn -/
/-- what a turn changes -/
def rMf (d : Nat) (I I' : am_I) : Prop := ∀ o k, o ≠ 188 → o ≠ 189 → ¬ (o = 184 ∧ 5000 * d ≤ k ∧ k < 5000 * d + 5000) → I' o k = I o k
theorem rMf.trans {d : Nat} {I I' I'' : am_I} (h : rMf d I I') (g : rMf d I' I'') : rMf d I I'' := fun o k e1 e2 e3 => (g o k e1 e2 e3).trans (h o k e1 e2 e3)
theorem rMf.rfl' {d : Nat} {I : am_I} : rMf d I I := fun _ _ _ _ _ => rfl
theorem rTd.ofM {d e : Nat} {I I' : am_I} {T : TX} (h : rTd d I T) (f : rMf e I I') : rTd d I' T := ⟨(f _ _ (by omega) (by omega) (by omega)).trans h.1, h.2.1, fun i hi => (f _ _ (by omega) (by omega) (by omega)).trans (h.2.2 i hi)⟩
/-- the quotes of a level's text -/
def rQg (d : Nat) (I : am_I) (w : Nat → Int32) (n : Nat) (Q : Nat → Nat → Nat → Prop) : Prop := ∀ q i, q < wN w 2 → i < 24 → (I 186 ((4 * d + q) * 24 + i) = 1 ∧ ∃ e, i ≤ e ∧ e ≤ n ∧ I 185 ((4 * d + q) * 24 + i) = ni e ∧ ∀ e', Q q i e' ↔ e' = e) ∨ (I 186 ((4 * d + q) * 24 + i) = 0 ∧ ∀ e', ¬ Q q i e')
theorem rQg.ofM {d e n : Nat} {I I' : am_I} {w : Nat → Int32} {Q : Nat → Nat → Nat → Prop} (h : rQg d I w n Q) (f : rMf e I I') : rQg d I' w n Q := by
  intro q i hq hi
  rw [f 186 _ (by omega) (by omega) (by omega), f 185 _ (by omega) (by omega) (by omega)]
  exact h q i hq hi
/-- where a turn stands: nothing changed yet, or nearer to the end -/
def rMs (d : Nat) (w : Nat → Int32) (T : TX) (Ht : Nat → Nat → Nat → Nat) (L : Nat) (H0 : Nat → Nat) (x : Nat) (I : am_I) (H : Nat → Nat) : Prop := rHi d I H ∧ hIv w T Ht L H ∧ ((x = 0 ∧ H = H0) ∨ (x = 1 ∧ muN H < muN H0)) ∧ hLe H0 H
section MOR
variable {d0 : Nat} {P : am_O → Prop} {J : am_J} {Pf : am_R} {T : TX} {w : Nat → Int32} {Q : Nat → Nat → Nat → Prop} {Ht : Nat → Nat → Nat → Nat}
theorem rMs.x {d L x : Nat} {H0 H : Nat → Nat} {I : am_I} (h : rMs d w T Ht L H0 x I H) : x < 2 := by
  rcases h.2.2.1 with z | z <;> omega
theorem rMs.set (hG : WG w) (hs : sndW w) (hT : T.1 ≤ 24) (hS : Sol w T Q 0 Ht) {d L x : Nat} {H0 H : Nat → Nat} {I : am_I} (h : rMs d w T Ht L H0 x I H) {s i j v : Nat} (h8 : s < 8) (hl : lyW w 64 s = L) (hij : i ≤ j) (hj : j ≤ T.1) (hm : may w T (hC H) s i j) (hst : stp w T Q (lo (hC H) v) s i j) (hv : v + 1 ≤ nzN H + 1) (hn : ¬ (0 < hC H s i j ∧ hC H s i j ≤ v + 1)) : rMs d w T Ht L H0 1 (am_u I 184 (5000 * d + (625 * s + 25 * i + j)) (ni (v + 1))) (hSet H (625 * s + 25 * i + j) (v + 1)) ∧ hLe H (hSet H (625 * s + 25 * i + j) (v + 1)) := by
  obtain ⟨a1, a2, a3, a4⟩ := h
  obtain ⟨b1, b2, b3⟩ := a2.set hG hs hT hS h8 hl hij hj hm hst hv hn
  refine ⟨⟨a1.set, b1, Or.inr ⟨rfl, ?_⟩, a4.trans b3⟩, b3⟩
  rcases a3 with z | z
  · rw [← z.2]; exact b2
  · omega
/-- one sort's turn -/
theorem sr_turn (hp : am_PF Pf) (hG : WG w) (hs : sndW w) {d : Nat} (hd : d ≤ 3) {I : am_I} (hg : I 167 = w) (hT : rTd d I T) (hTo : txOK T) (hQ : rQg d I w T.1 Q) (hQn : ∀ q i e, Q q i e → i < T.1) (hS : Sol w T Q 0 Ht) {L : Nat} {H0 : Nat → Nat} (hH : rHi d I H0) (hI : hIv w T Ht L H0) {s : Nat} (h8 : s < 8) (hl : lyW w 64 s = L)
    (kk0 : ∀ I', rMf d I I' → rHi d I' H0 → hCl w T Q H0 s → P (.inl (some (.int 0)), (am_SH, I', J, Pf), 0, 0)) (kk1 : ∀ I' H', rMf d I I' → rHi d I' H' → hIv w T Ht L H' → muN H' < muN H0 → P (.inl (some (.int 1)), (am_SH, I', J, Pf), 0, 0)) : am_mth (d0 + 6) 266 [.ref 163, .int (ni d), .int (ni s)] (am_SH, I, J, Pf) P := by
  have h24 := hT.2.1
  obtain ⟨⟨-, w0'⟩, ⟨w1, w1'⟩, ⟨w2, w2'⟩, -, -, -⟩ := id hG.1
  -- what is done with a place that is come to
  have DO : ∀ (I1 : am_I) (H : Nat → Nat) (x i j v : Nat), rMf d I I1 → rMs d w T Ht L H0 x I1 H → i ≤ j → j ≤ T.1 → stp w T Q (lo (hC H) v) s i j → v + 1 ≤ nzN H + 1 → ∀ (R : am_O → Prop),
      (((0 < hC H s i j ∧ hC H s i j ≤ v + 1) ∨ ¬ may w T (hC H) s i j) → R (.inl (some (.int 0)), (am_SH, I1, J, Pf), 0, 0)) →
      (∀ I2 H2, rMf d I I2 → rMs d w T Ht L H0 1 I2 H2 → hLe H H2 → (∀ o k, o ≠ 184 → I2 o k = I1 o k) → R (.inl (some (.int 1)), (am_SH, I2, J, Pf), 0, 0)) → am_mth (d0 + 5) 265 [.ref 163, .int (ni d), .int (ni s), .int (ni i), .int (ni j), .int (ni (v + 1))] (am_SH, I1, J, Pf) R := by
    intro I1 H x i j v hf hR hij hj hst hv R r0 r1
    have hnz := nzN_le H
    have hcell : 625 * s + 25 * i + j < 5000 := by omega
    refine sr_lower (d0 := d0 + 1) hp hG hd (by rw [← hg]; funext k; exact hf _ _ (by omega) (by omega) (by omega)) (hT.ofM hf) hTo hR.1 hR.2.1.2.2 (by omega) h8 (by omega) hj (by omega) r0 (fun hn hm => ?_)
    obtain ⟨a1, a2⟩ := hR.set hG hs h24 hS h8 hl hij hj hm hst hv hn
    exact r1 _ _ (fun o k e1 e2 e3 => (am_u_nq (by omega)).trans (hf o k e1 e2 e3)) a1 a2 (fun o k e => am_u_nq (by omega))
  -- the productions
  have LJ : ∀ (m p i j x : Nat) (I1 : am_I) (H Ha : Nat → Nat) (A : Nat → Nat), T.1 + 1 - j = m → i ≤ j → j ≤ T.1 + 1 → p < wN w 1 → wN w (32 + 3 * p) = s → rMf d I I1 → rMs d w T Ht L H0 x I1 H → hLe Ha H → (x = 0 → Ha = H0) → r25 I1 188 A → alo w T Ha (nzN Ha) p i (wN w (32 + 3 * p + 2)) A → (x = 0 → ∀ j', i ≤ j' → j' < j → ∀ h, rch w T (lo (hC H0) h) p i (wN w (32 + 3 * p + 2)) j' → may w T (hC H0) s i j' → lo (hC H0) (h + 1) s i j') →
      (∀ I' H' x', (x' = 0 → x = 0) → rMf d I I' → rMs d w T Ht L H0 x' I' H' → (x' = 0 → ∀ j', i ≤ j' → j' ≤ T.1 → ∀ h, rch w T (lo (hC H0) h) p i (wN w (32 + 3 * p + 2)) j' → may w T (hC H0) s i j' → lo (hC H0) (h + 1) s i j') → ∀ l6, am_go none (d0 + 5) 266 (120, [some (.ref 163), some (.int (ni d)), some (.int (ni s)), some (.int (ni x')), some (.int (ni p)), some (.int (ni (i + 1))), l6], [], (am_SH, I', J, Pf), 0, 0) P) →
      am_go none (d0 + 5) 266 (159, [some (.ref 163), some (.int (ni d)), some (.int (ni s)), some (.int (ni x)), some (.int (ni p)), some (.int (ni i)), some (.int (ni j))], [], (am_SH, I1, J, Pf), 0, 0) P := by
    intro m
    induction m with
    | zero =>
      intro p i j x I1 H Ha A hm hij hj hpp hps hf hR hLa hxa hA ha hh kk
      have : j = T.1 + 1 := by omega
      subst this
      refine v266_159 hp ?_
      rw [show (25 : Int32) = ni 25 from rfl, ni_mul, show (ni (25 * d)).toNatClampNeg = 25 * d from ni_nat (by omega), hf 183 _ (by omega) (by omega) (by omega), hT.1, if_pos ((ni_lt (by omega) (by omega)).mpr (by omega)), ni_p1]
      exact ⟨ni_in (by omega) (by omega), kk I1 H x id hf hR (fun hx j' h1 h2 => hh hx j' h1 (by omega)) _⟩
    | succ m ih =>
      intro p i j x I1 H Ha A hm hij hj hpp hps hf hR hLa hxa hA ha hh kk
      have hnz := nzN_le H
      have hnza := nzN_le Ha
      have hAj := ha.2 j (by omega)
      refine v266_159 hp ?_
      rw [show (25 : Int32) = ni 25 from rfl, ni_mul, show (ni (25 * d)).toNatClampNeg = 25 * d from ni_nat (by omega), hf 183 _ (by omega) (by omega) (by omega), hT.1, if_neg (fun z => absurd ((ni_lt (by omega) (by omega)).mp z) (by omega)), show (ni j).toNatClampNeg = j from ni_nat (by omega), hA j (by omega), ni_p1 j]
      refine ⟨ni_in (by omega) (by omega), ni_in (by omega) (by omega), ?_⟩
      by_cases c0 : A j = 0
      · rw [if_pos ((lle 0 (by omega) (by omega)).mpr (by omega))]
        refine ih p i (j + 1) x I1 H Ha A (by omega) (by omega) (by omega) hpp hps hf hR hLa hxa hA ha (fun hx j' h1 h2 h hr hmm => ?_) kk
        by_cases e : j' = j
        · subst e
          have := (ha.1 j' (by omega) h).mpr (by rw [hxa hx]; exact hr)
          omega
        · exact hh hx j' h1 (by omega) h hr hmm
      · rw [if_neg (fun z => absurd ((lle 0 (by omega) (by omega)).mp z) (by omega))]
        refine ⟨ni_in (by omega) (by omega), ?_⟩
        obtain ⟨v, hv⟩ : ∃ v, A j = v + 1 := ⟨A j - 1, by omega⟩
        have hrch := (ha.1 j (by omega) v).mp (by omega)
        have hst : stp w T Q (lo (hC H) v) s i j := Or.inr ⟨p, hpp, hps, rch_tr hG txQ.rfl' hpp (Nat.zero_le _) (by omega) (fun k hk e1 b e b1 b2 b3 z => by
          have t8 := (WG.so ((hG.pr hpp).2.2.2.2.2 k hk) e1).1
          have := hLa (625 * wN w (eP p k + 1) + 25 * b + e) (by omega) z.1
          unfold lo hC at *
          omega) _ j (Nat.le_refl _) hrch⟩
        rw [hv]
        refine DO I1 H x i j v hf hR hij (by omega) hst (by have := hLa.nz; omega) _ (fun h0 => am_back (v266_196 hp ?_)) (fun I2 H2 f2 R2 l2 g2 => am_back (v266_196 hp ?_))
        · rw [if_pos rfl, ni_p1]
          refine ih p i (j + 1) x I1 H Ha A (by omega) (by omega) (by omega) hpp hps hf hR hLa hxa hA ha (fun hx j' h1 h2 h hr hmm => ?_) kk
          by_cases e : j' = j
          · subst e
            have hq := (ha.1 j' (by omega) h).mpr (by rw [hxa hx]; exact hr)
            have hH0 : H = H0 := by
              rcases hR.2.2.1 with z | z
              · exact z.2
              · omega
            rcases h0 with z | z
            · rw [hH0] at z
              unfold lo
              omega
            · rw [hH0] at z
              exact absurd hmm z
          · exact hh hx j' h1 (by omega) h hr hmm
        · rw [if_neg (by decide), ni_p1, show (1 : Int32) = ni 1 from rfl]
          exact ih p i (j + 1) 1 I2 H2 Ha A (by omega) (by omega) (by omega) hpp hps f2 R2 (hLa.trans l2) (fun z => absurd z (by omega)) (fun y hy => by rw [g2 _ _ (by omega)]; exact hA y hy) ha (fun z => absurd z (by omega)) (fun I' H' x' k1 => kk I' H' x' (fun z => absurd (k1 z) (by omega)))
  have LI : ∀ (m p i x : Nat) (I1 : am_I) (H : Nat → Nat) (l6 : Option Value), T.1 + 1 - i = m → i ≤ T.1 + 1 → p < wN w 1 → rMf d I I1 → rMs d w T Ht L H0 x I1 H → (x = 0 → ∀ i', i' < i → ∀ j', i' ≤ j' → j' ≤ T.1 → wN w (32 + 3 * p) = s → ∀ h, rch w T (lo (hC H0) h) p i' (wN w (32 + 3 * p + 2)) j' → may w T (hC H0) s i' j' → lo (hC H0) (h + 1) s i' j') →
      (∀ I' H' x', (x' = 0 → x = 0) → rMf d I I' → rMs d w T Ht L H0 x' I' H' → (x' = 0 → ∀ i', ∀ j', i' ≤ j' → j' ≤ T.1 → wN w (32 + 3 * p) = s → ∀ h, rch w T (lo (hC H0) h) p i' (wN w (32 + 3 * p + 2)) j' → may w T (hC H0) s i' j' → lo (hC H0) (h + 1) s i' j') → ∀ l5 l6, am_go none (d0 + 5) 266 (106, [some (.ref 163), some (.int (ni d)), some (.int (ni s)), some (.int (ni x')), some (.int (ni (p + 1))), l5, l6], [], (am_SH, I', J, Pf), 0, 0) P) →
      am_go none (d0 + 5) 266 (120, [some (.ref 163), some (.int (ni d)), some (.int (ni s)), some (.int (ni x)), some (.int (ni p)), some (.int (ni i)), l6], [], (am_SH, I1, J, Pf), 0, 0) P := by
    intro m
    induction m with
    | zero =>
      intro p i x I1 H l6 hm hi hpp hf hR hh kk
      have : i = T.1 + 1 := by omega
      subst this
      refine v266_120 hp ?_
      rw [show (25 : Int32) = ni 25 from rfl, ni_mul, show (ni (25 * d)).toNatClampNeg = 25 * d from ni_nat (by omega), hf 183 _ (by omega) (by omega) (by omega), hT.1, if_pos ((ni_lt (by omega) (by omega)).mpr (by omega)), ni_p1]
      exact ⟨ni_in (by omega) (by omega), kk I1 H x id hf hR (fun hx i' j' h1 h2 => hh hx i' (by omega) j' h1 h2) _ _⟩
    | succ m ih =>
      intro p i x I1 H l6 hm hi hpp hf hR hh kk
      obtain ⟨g1, g2, -⟩ := hG.pr hpp
      refine v266_120 hp ?_
      rw [show (25 : Int32) = ni 25 from rfl, ni_mul, show (ni (25 * d)).toNatClampNeg = 25 * d from ni_nat (by omega), hf 183 _ (by omega) (by omega) (by omega), hT.1, if_neg (fun z => absurd ((ni_lt (by omega) (by omega)).mp z) (by omega)), show (3 : Int32) = ni 3 from rfl, ni_mul, show (32 : Int32) + ni (3 * p) = ni (32 + 3 * p) from ni_add 32 _, show (ni (32 + 3 * p)).toNatClampNeg = 32 + 3 * p from ni_nat (by omega), show I1 167 = w by rw [← hg]; funext k; exact hf _ _ (by omega) (by omega) (by omega), g2, ni_p1 p]
      refine ⟨ni_in (by omega) (by omega), ni_in (by omega) (by omega), ?_⟩
      by_cases c : wN w (32 + 3 * p) = s
      · rw [if_pos ((ni_inj (by omega) (by omega)).mpr c)]
        have hnz := nzN_le H
        refine sr_along (d0 := d0) hp hG hd (by rw [← hg]; funext k; exact hf _ _ (by omega) (by omega) (by omega)) (hT.ofM hf) hTo hR.1 hR.2.1.2.2 (by omega) hpp (by omega) (fun I2 A a1 a2 a3 => am_back (v266_155 hp ?_))
        have hR2 : rMs d w T Ht L H0 x I2 H := ⟨fun c hc => by rw [a3 _ _ (by omega) (by omega)]; exact hR.1 c hc, hR.2⟩
        refine LJ _ p i i x I2 H H A rfl (Nat.le_refl _) (by omega) hpp c (fun o k e1 e2 e3 => (a3 o k e1 e2).trans (hf o k e1 e2 e3)) hR2 hLe.rfl' (fun hx => ?_) a1 a2 (fun _ j' b1 b2 => absurd b2 (by omega)) (fun I' H' x' k1 k2 k3 k4 l6 => ih p (i + 1) x' I' H' l6 (by omega) (by omega) hpp k2 k3 (fun hx' i' hi' j' b1 b2 b3 h b4 b5 => ?_) (fun I'' H'' x'' j1 => kk I'' H'' x'' (fun z => k1 (j1 z))))
        · rcases hR.2.2.1 with z | z
          · exact z.2
          · omega
        · by_cases e : i' = i
          · subst e; exact k4 hx' j' b1 b2 h b4 b5
          · exact hh (k1 hx') i' (by omega) j' b1 b2 b3 h b4 b5
      · rw [if_neg (fun z => c ((ni_inj (by omega) (by omega)).mp z))]
        exact kk I1 H x id hf hR (fun hx i' j' b1 b2 b3 => absurd b3 c) _ _
  have LP : ∀ (m p x : Nat) (I1 : am_I) (H : Nat → Nat) (l5 l6 : Option Value), wN w 1 - p = m → p ≤ wN w 1 → rMf d I I1 → rMs d w T Ht L H0 x I1 H → (x = 0 → ∀ q i e, q < wN w 2 → wN w (972 + 5 * q) = s → Q q i e → may w T (hC H0) s i e → lo (hC H0) 1 s i e) → (x = 0 → ∀ p' i' j', p' < p → i' ≤ j' → j' ≤ T.1 → wN w (32 + 3 * p') = s → ∀ h, rch w T (lo (hC H0) h) p' i' (wN w (32 + 3 * p' + 2)) j' → may w T (hC H0) s i' j' → lo (hC H0) (h + 1) s i' j') →
      am_go none (d0 + 5) 266 (106, [some (.ref 163), some (.int (ni d)), some (.int (ni s)), some (.int (ni x)), some (.int (ni p)), l5, l6], [], (am_SH, I1, J, Pf), 0, 0) P := by
    intro m
    induction m with
    | zero =>
      intro p x I1 H l5 l6 hm hpp hf hR hq hh
      have : p = wN w 1 := by omega
      subst this
      refine v266_106 hp ?_
      rw [show I1 167 = w by rw [← hg]; funext k; exact hf _ _ (by omega) (by omega) (by omega), w1, if_pos ((ni_le (by omega) (by omega)).mpr (Nat.le_refl _))]
      rcases hR.2.2.1 with ⟨rfl, rfl⟩ | ⟨rfl, hmu⟩
      · refine ⟨Or.inl rfl, kk0 I1 hf hR.1 (fun i j h hij hj hm hst => ?_)⟩
        rcases hst with ⟨q, q1, q2, q3⟩ | ⟨p, p1, p2, p3⟩
        · have := hq rfl q i j q1 q2 q3 hm
          unfold lo at *
          omega
        · exact hh rfl p i j p1 hij hj p2 h p3 hm
      · exact ⟨Or.inr rfl, kk1 I1 H hf hR.1 hR.2.1 hmu⟩
    | succ m ih =>
      intro p x I1 H l5 l6 hm hpp hf hR hq hh
      refine v266_106 hp ?_
      rw [show I1 167 = w by rw [← hg]; funext k; exact hf _ _ (by omega) (by omega) (by omega), w1, if_neg (fun z => absurd ((ni_le (by omega) (by omega)).mp z) (by omega)), show (0 : Int32) = ni 0 from rfl]
      refine LI _ p 0 x I1 H _ rfl (by omega) (by omega) hf hR (fun _ i' hi' => absurd hi' (by omega)) (fun I' H' x' k1 k2 k3 k4 l5 l6 => ih (p + 1) x' I' H' l5 l6 (by omega) (by omega) k2 k3 (fun hx => hq (k1 hx)) (fun hx p' i' j' b1 b2 b3 b4 => ?_))
      by_cases e : p' = p
      · subst e; exact k4 hx i' j' b2 b3 b4
      · exact hh (k1 hx) p' i' j' (by omega) b2 b3 b4
  -- the quotes
  have LQI : ∀ (m q i x : Nat) (I1 : am_I) (H : Nat → Nat) (l6 : Option Value), T.1 - i = m → i ≤ T.1 → q < wN w 2 → rMf d I I1 → rMs d w T Ht L H0 x I1 H → (x = 0 → ∀ i' e, i' < i → wN w (972 + 5 * q) = s → Q q i' e → may w T (hC H0) s i' e → lo (hC H0) 1 s i' e) →
      (∀ I' H' x', (x' = 0 → x = 0) → rMf d I I' → rMs d w T Ht L H0 x' I' H' → (x' = 0 → ∀ i' e, wN w (972 + 5 * q) = s → Q q i' e → may w T (hC H0) s i' e → lo (hC H0) 1 s i' e) → ∀ l5 l6, am_go none (d0 + 5) 266 (5, [some (.ref 163), some (.int (ni d)), some (.int (ni s)), some (.int (ni x')), some (.int (ni (q + 1))), l5, l6], [], (am_SH, I', J, Pf), 0, 0) P) →
      am_go none (d0 + 5) 266 (19, [some (.ref 163), some (.int (ni d)), some (.int (ni s)), some (.int (ni x)), some (.int (ni q)), some (.int (ni i)), l6], [], (am_SH, I1, J, Pf), 0, 0) P := by
    intro m
    induction m with
    | zero =>
      intro q i x I1 H l6 hm hi hqq hf hR hh kk
      have : i = T.1 := by omega
      subst this
      refine v266_19 hp ?_
      rw [show (25 : Int32) = ni 25 from rfl, ni_mul, show (ni (25 * d)).toNatClampNeg = 25 * d from ni_nat (by omega), hf 183 _ (by omega) (by omega) (by omega), hT.1, if_pos ((ni_le (by omega) (by omega)).mpr (Nat.le_refl _)), ni_p1]
      exact ⟨ni_in (by omega) (by omega), kk I1 H x id hf hR (fun hx i' e b1 b2 => hh hx i' e (hQn q i' e b2) b1 b2) _ _⟩
    | succ m ih =>
      intro q i x I1 H l6 hm hi hqq hf hR hh kk
      obtain ⟨g1, g2, -⟩ := hG.qu hqq
      refine v266_19 hp ?_
      rw [show (25 : Int32) = ni 25 from rfl, ni_mul, show (ni (25 * d)).toNatClampNeg = 25 * d from ni_nat (by omega), hf 183 _ (by omega) (by omega) (by omega), hT.1, if_neg (fun z => absurd ((ni_le (by omega) (by omega)).mp z) (by omega)), show (5 : Int32) = ni 5 from rfl, ni_mul, show (972 : Int32) + ni (5 * q) = ni (972 + 5 * q) from ni_add 972 _, show (ni (972 + 5 * q)).toNatClampNeg = 972 + 5 * q from ni_nat (by omega), show I1 167 = w by rw [← hg]; funext k; exact hf _ _ (by omega) (by omega) (by omega), g2, ni_p1 q]
      refine ⟨ni_in (by omega) (by omega), ni_in (by omega) (by omega), ?_⟩
      by_cases c : wN w (972 + 5 * q) = s
      · have hQ1 := (hQ.ofM hf) q i hqq (by omega)
        rw [if_pos ((ni_inj (by omega) (by omega)).mpr c), show (4 : Int32) = ni 4 from rfl, show (24 : Int32) = ni 24 from rfl, ni_mul, ni_add, ni_mul, ni_add, show (ni ((4 * d + q) * 24 + i)).toNatClampNeg = (4 * d + q) * 24 + i from ni_nat (by omega), ni_p1 i]
        have bin : am_in (ni ((4 * d + q) * 24 + i)) 384 = true := ni_in (by omega) (by omega)
        refine ⟨bin, ?_⟩
        rcases hQ1 with ⟨z1, e, z2, z3, z4, z5⟩ | ⟨z1, z2⟩
        · rw [z1, if_neg (by decide), z4]
          refine ⟨bin, ?_⟩
          refine DO I1 H x i e 0 hf hR z2 z3 (Or.inl ⟨q, hqq, c, (z5 e).mpr rfl⟩) (by omega) _ (fun h0 => am_back (v266_86 hp ?_)) (fun I2 H2 f2 R2 l2 g2 => am_back (v266_86 hp ?_))
          · rw [if_pos rfl, ni_p1]
            refine ih q (i + 1) x I1 H _ (by omega) (by omega) hqq hf hR (fun hx i' e' b1 b2 b3 b4 => ?_) kk
            by_cases ei : i' = i
            · subst ei
              have hH0 : H = H0 := by
                rcases hR.2.2.1 with z | z
                · exact z.2
                · omega
              have ee := (z5 e').mp b3
              subst ee
              rcases h0 with z | z
              · rw [hH0] at z; exact z
              · rw [hH0] at z; exact absurd b4 z
            · exact hh hx i' e' (by omega) b2 b3 b4
          · rw [if_neg (by decide), ni_p1, show (1 : Int32) = ni 1 from rfl]
            exact ih q (i + 1) 1 I2 H2 _ (by omega) (by omega) hqq f2 R2 (fun z => absurd z (by omega)) (fun I' H' x' k1 => kk I' H' x' (fun z => absurd (k1 z) (by omega)))
        · rw [z1, if_pos rfl]
          refine ih q (i + 1) x I1 H _ (by omega) (by omega) hqq hf hR (fun hx i' e' b1 b2 b3 b4 => ?_) kk
          by_cases ei : i' = i
          · subst ei; exact absurd b3 (z2 e')
          · exact hh hx i' e' (by omega) b2 b3 b4
      · rw [if_neg (fun z => c ((ni_inj (by omega) (by omega)).mp z))]
        exact kk I1 H x id hf hR (fun hx i' e b1 => absurd b1 c) _ _
  have LQ : ∀ (m q x : Nat) (I1 : am_I) (H : Nat → Nat) (l5 l6 : Option Value), wN w 2 - q = m → q ≤ wN w 2 → rMf d I I1 → rMs d w T Ht L H0 x I1 H → (x = 0 → ∀ q' i e, q' < q → wN w (972 + 5 * q') = s → Q q' i e → may w T (hC H0) s i e → lo (hC H0) 1 s i e) →
      am_go none (d0 + 5) 266 (5, [some (.ref 163), some (.int (ni d)), some (.int (ni s)), some (.int (ni x)), some (.int (ni q)), l5, l6], [], (am_SH, I1, J, Pf), 0, 0) P := by
    intro m
    induction m with
    | zero =>
      intro q x I1 H l5 l6 hm hqq hf hR hh
      have : q = wN w 2 := by omega
      subst this
      refine v266_5 hp ?_
      rw [show I1 167 = w by rw [← hg]; funext k; exact hf _ _ (by omega) (by omega) (by omega), w2, if_pos ((ni_le (by omega) (by omega)).mpr (Nat.le_refl _)), show (0 : Int32) = ni 0 from rfl]
      exact LP _ 0 x I1 H _ _ rfl (Nat.zero_le _) hf hR hh (fun _ p' i' j' b1 => absurd b1 (by omega))
    | succ m ih =>
      intro q x I1 H l5 l6 hm hqq hf hR hh
      refine v266_5 hp ?_
      rw [show I1 167 = w by rw [← hg]; funext k; exact hf _ _ (by omega) (by omega) (by omega), w2, if_neg (fun z => absurd ((ni_le (by omega) (by omega)).mp z) (by omega)), show (0 : Int32) = ni 0 from rfl]
      refine LQI _ q 0 x I1 H _ rfl (by omega) (by omega) hf hR (fun _ i' e hi' => absurd hi' (by omega)) (fun I' H' x' k1 k2 k3 k4 l5 l6 => ih (q + 1) x' I' H' l5 l6 (by omega) (by omega) k2 k3 (fun hx q' i e b1 b2 => ?_))
      by_cases eq : q' = q
      · subst eq; exact k4 hx i e b2
      · exact hh (k1 hx) q' i e (by omega) b2
  refine am_mth_of rfl rfl (v266_0 hp ?_)
  rw [show (0 : Int32) = ni 0 from rfl]
  exact LQ _ 0 0 I H0 _ _ rfl (Nat.zero_le _) rMf.rfl' ⟨hH, hI, Or.inl ⟨rfl, rfl⟩, hLe.rfl'⟩ (fun _ q' i e b1 => absurd b1 (by omega))
end MOR
