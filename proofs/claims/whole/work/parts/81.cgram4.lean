/-! The class: clauses -/
/-- all the drops's places -/
def cGxs (I : am_I) (w : Nat → Int32) : Prop := ∀ d, d < wN w 4 → cGx I w d
theorem cGx.of {I I' : am_I} {w w' : Nat → Int32} {j : Nat} (h : cGx I w j) (f1 : I' 5 j = I 5 j) (f2 : I' 6 j = I 6 j) (g : ∀ i, i < 4 → w' (1008 + 4 * j + i) = w (1008 + 4 * j + i)) : cGx I' w' j :=
  ⟨by rw [f1, h.1]; exact (g 2 (by omega)).symm, by rw [f2, h.2]; exact (g 3 (by omega)).symm⟩
theorem wN_fu_n {w : Nat → Int32} {k i : Nat} {v : Int32} (h : i ≠ k) : wN (fu w k v) i = wN w i := by unfold wN; rw [fu_n h]
theorem wN_fu_s {w : Nat → Int32} {k x : Nat} (h : x < 2147483648) : wN (fu w k (ni x)) k = x := by unfold wN; rw [fu_s, ni_nat h]
theorem wN_eq {w w' : Nat → Int32} {i : Nat} (h : w' i = w i) : wN w' i = wN w i := by unfold wN; rw [h]
section CG4
variable {r : Nat}
/-- one more production -/
theorem cG.prod {I I' : am_I} {J : am_J} {w z : Nat → Int32} (h : cG r I J w) (hx : cGxs I w) (hG : WG w) (hr : r = 16 ∨ r = 55) (hp20 : wN w 1 < 20) (hz : ∀ i, (i < 32 + 3 * wN w 1 ∨ (32 + 3 * wN w 1 + 3 ≤ i ∧ i < 92 + 44 * wN w 1) ∨ 92 + 44 * wN w 1 + 44 ≤ i) → z i = w i) (g2 : cGp r I' z (wN w 1)) (g3 : I' r 2 = ni (wN w 1 + 1)) (hok : prOK z (wN w 0) (wN w 1)) (g4 : ∀ o k', ¬ (o = 1 ∧ (k' = 3 ∨ k' = 7 ∨ k' = 8 ∨ k' = 9)) → ¬ (o = r ∧ k' = 2) → ¬ ((o = r + 2 ∨ o = r + 3 ∨ o = r + 4) ∧ k' = wN w 1) → ¬ ((o = r + 5 ∨ o = r + 6) ∧ 4 * wN w 1 ≤ k' ∧ k' < 4 * wN w 1 + 4) → ¬ (o = r + 7 ∧ 32 * wN w 1 ≤ k' ∧ k' < 32 * wN w 1 + 32) → I' o k' = I o k') : cG r I' J (fu z 1 (ni (wN z 1 + 1))) ∧ cGxs I' (fu z 1 (ni (wN z 1 + 1))) := by
  have hO := cO_le hr
  obtain ⟨⟨c0, c1, c2, c3, c4, c5⟩, hC, hP, hQ, hN, hD⟩ := h
  have zw : ∀ i, i < 32 → z i = w i := fun i hi => hz i (by omega)
  have e1 : wN z 1 = wN w 1 := wN_eq (zw 1 (by omega))
  have en : ∀ i, i < 32 → i ≠ 1 → wN (fu z 1 (ni (wN z 1 + 1))) i = wN w i := fun i hi h1 => (wN_fu_n h1).trans (wN_eq (zw i hi))
  have hI : ∀ o k', (o = r ∧ k' ≠ 2) ∨ (8 + r ≤ o ∧ o < r + 39) ∨ (2 ≤ o ∧ o < 8) → I' o k' = I o k' := fun o k' e => g4 o k' (by omega) (by omega) (by omega) (by omega) (by omega)
  rw [e1]
  rw [e1] at en
  refine ⟨⟨⟨?_, ?_, ?_, ?_, ?_, ?_⟩, fun c hc => ?_, fun p hp => ?_, fun q hq => ?_, fun j hj => ?_, fun d hd => ?_⟩, fun d hd => ?_⟩
  · rw [hI _ _ (by omega), c0, fu_n (by omega), zw 0 (by omega)]
  · rw [g3, fu_s]
  · rw [hI _ _ (by omega), c2, fu_n (by omega), zw 2 (by omega)]
  · rw [hI _ _ (by omega), c3, fu_n (by omega), zw 3 (by omega)]
  · rw [hI _ _ (by omega), c4, fu_n (by omega), zw 4 (by omega)]
  · rw [hI _ _ (by omega), c5, fu_n (by omega), zw 5 (by omega)]
  · rw [en 0 (by omega) (by omega)] at hc
    have := hG.1.1.2
    exact (hC c hc).of rfl (fun i hi => by rw [fu_n (by omega), zw _ (by omega)])
  · rw [wN_fu_s (by omega)] at hp
    by_cases cp : p < wN w 1
    · exact (hP p cp).of (hG.2.1 p cp) (fun o e => g4 _ _ (by omega) (by omega) (by omega) (by omega) (by omega)) (fun o k e hk => g4 _ _ (by omega) (by omega) (by omega) (by omega) (by omega)) (fun i hi => g4 _ _ (by omega) (by omega) (by omega) (by omega) (by omega)) (fun i hi => by rw [fu_n (by omega), hz _ (by omega)]) (fun i hi => by rw [fu_n (by omega), hz _ (by omega)])
    · have : p = wN w 1 := by omega
      subst this
      exact g2.of hok (fun _ _ => rfl) (fun _ _ _ _ => rfl) (fun _ _ => rfl) (fun i hi => fu_n (by omega)) (fun i hi => fu_n (by omega))
  · rw [en 2 (by omega) (by omega)] at hq
    exact (hQ q hq).of (hI _ _ (by omega)) (hI _ _ (by omega)) (fun i hi => hI _ _ (by omega)) (fun i hi => by rw [fu_n (by omega), hz _ (by omega)])
  · rw [en 3 (by omega) (by omega)] at hj
    exact (hN j hj).of (hI _ _ (by omega)) (hI _ _ (by omega)) (fun i hi => by rw [fu_n (by omega), hz _ (by omega)])
  · rw [en 4 (by omega) (by omega)] at hd
    exact (hD d hd).of (hI _ _ (by omega)) (hI _ _ (by omega)) (fun i hi => by rw [fu_n (by omega), hz _ (by omega)])
  · rw [en 4 (by omega) (by omega)] at hd
    exact (hx d hd).of (hI _ _ (by omega)) (hI _ _ (by omega)) (fun i hi => by rw [fu_n (by omega), hz _ (by omega)])
theorem cG.quote {I I' : am_I} {J : am_J} {w z : Nat → Int32} (h : cG r I J w) (hx : cGxs I w) (hG : WG w) (hr : r = 16 ∨ r = 55) (hk : wN w 2 < 4) (hz : ∀ i, (i < 972 + 5 * wN w 2 ∨ 972 + 5 * wN w 2 + 5 ≤ i) → z i = w i) (g2 : cGq r I' z (wN w 2)) (g3 : I' r 9 = ni (wN w 2 + 1)) (g4 : ∀ o k', ¬ (o = 1 ∧ (k' = 3 ∨ k' = 7 ∨ k' = 8 ∨ k' = 9)) → ¬ (o = r ∧ k' = 9) → o ≠ 7 → ¬ ((o = r + 8 ∨ o = r + 9) ∧ k' = wN w 2) → ¬ (o = r + 10 ∧ 3 * wN w 2 ≤ k' ∧ k' < 3 * wN w 2 + 3) → I' o k' = I o k') : cG r I' J (fu z 2 (ni (wN z 2 + 1))) ∧ cGxs I' (fu z 2 (ni (wN z 2 + 1))) := by
  have hO := cO_le hr
  obtain ⟨⟨c0, c1, c2, c3, c4, c5⟩, hC, hP, hQ, hN, hD⟩ := h
  obtain ⟨⟨⟨w0, w0'⟩, ⟨w1, w1'⟩, ⟨w2, w2'⟩, ⟨w3, w3'⟩, ⟨w4, w4'⟩, wk⟩, -⟩ := id hG
  have zw : ∀ i, i < 972 → z i = w i := fun i hi => hz i (by omega)
  have e1 : wN z 2 = wN w 2 := wN_eq (zw 2 (by omega))
  have en : ∀ i, i < 32 → i ≠ 2 → wN (fu z 2 (ni (wN z 2 + 1))) i = wN w i := fun i hi h1 => (wN_fu_n h1).trans (wN_eq (zw i (by omega)))
  have hI : ∀ o k', (o = r ∧ k' ≠ 9) ∨ (r < o ∧ o < r + 8) ∨ (11 + r ≤ o ∧ o < r + 39) ∨ (2 ≤ o ∧ o < 7) → I' o k' = I o k' := fun o k' e => g4 o k' (by omega) (by omega) (by omega) (by omega) (by omega)
  rw [e1]
  rw [e1] at en
  refine ⟨⟨⟨?_, ?_, ?_, ?_, ?_, ?_⟩, fun c hc => ?_, fun p hp => ?_, fun q hq => ?_, fun j hj => ?_, fun d hd => ?_⟩, fun d hd => ?_⟩
  · rw [hI _ _ (by omega), c0, fu_n (by omega), zw 0 (by omega)]
  · rw [hI _ _ (by omega), c1, fu_n (by omega), zw 1 (by omega)]
  · rw [g3, fu_s]
  · rw [hI _ _ (by omega), c3, fu_n (by omega), zw 3 (by omega)]
  · rw [hI _ _ (by omega), c4, fu_n (by omega), zw 4 (by omega)]
  · rw [hI _ _ (by omega), c5, fu_n (by omega), zw 5 (by omega)]
  · rw [en 0 (by omega) (by omega)] at hc
    exact (hC c hc).of rfl (fun i hi => by rw [fu_n (by omega), zw _ (by omega)])
  · rw [en 1 (by omega) (by omega)] at hp
    exact (hP p hp).of (hG.2.1 p hp) (fun o e => hI _ _ (by omega)) (fun o k e hk => hI _ _ (by omega)) (fun i hi => hI _ _ (by omega)) (fun i hi => by rw [fu_n (by omega), zw _ (by omega)]) (fun i hi => by rw [fu_n (by omega), zw _ (by omega)])
  · rw [wN_fu_s (by omega)] at hq
    by_cases cq : q < wN w 2
    · exact (hQ q cq).of (g4 _ _ (by omega) (by omega) (by omega) (by omega) (by omega)) (g4 _ _ (by omega) (by omega) (by omega) (by omega) (by omega)) (fun i hi => g4 _ _ (by omega) (by omega) (by omega) (by omega) (by omega)) (fun i hi => by rw [fu_n (by omega), hz _ (by omega)])
    · have : q = wN w 2 := by omega
      subst this
      exact g2.of rfl rfl (fun _ _ => rfl) (fun i hi => fu_n (by omega))
  · rw [en 3 (by omega) (by omega)] at hj
    exact (hN j hj).of (hI _ _ (by omega)) (hI _ _ (by omega)) (fun i hi => by rw [fu_n (by omega), hz _ (by omega)])
  · rw [en 4 (by omega) (by omega)] at hd
    exact (hD d hd).of (hI _ _ (by omega)) (hI _ _ (by omega)) (fun i hi => by rw [fu_n (by omega), hz _ (by omega)])
  · rw [en 4 (by omega) (by omega)] at hd
    exact (hx d hd).of (hI _ _ (by omega)) (hI _ _ (by omega)) (fun i hi => by rw [fu_n (by omega), hz _ (by omega)])
theorem cG.not {I I' : am_I} {J : am_J} {w z : Nat → Int32} (h : cG r I J w) (hx : cGxs I w) (hG : WG w) (hr : r = 16 ∨ r = 55) (hk : wN w 3 < 8) (hz : ∀ i, (i < 992 + 2 * wN w 3 ∨ 992 + 2 * wN w 3 + 2 ≤ i) → z i = w i) (g2 : cGn r I' z (wN w 3)) (g3 : I' r 13 = ni (wN w 3 + 1)) (g4 : ∀ o k', ¬ (o = 1 ∧ (k' = 3 ∨ k' = 7 ∨ k' = 8 ∨ k' = 9)) → ¬ (o = r ∧ k' = 13) → ¬ ((o = r + 11 ∨ o = r + 12) ∧ k' = wN w 3) → I' o k' = I o k') : cG r I' J (fu z 3 (ni (wN z 3 + 1))) ∧ cGxs I' (fu z 3 (ni (wN z 3 + 1))) := by
  have hO := cO_le hr
  obtain ⟨⟨c0, c1, c2, c3, c4, c5⟩, hC, hP, hQ, hN, hD⟩ := h
  obtain ⟨⟨⟨w0, w0'⟩, ⟨w1, w1'⟩, ⟨w2, w2'⟩, ⟨w3, w3'⟩, ⟨w4, w4'⟩, wk⟩, -⟩ := id hG
  have zw : ∀ i, i < 992 → z i = w i := fun i hi => hz i (by omega)
  have e1 : wN z 3 = wN w 3 := wN_eq (zw 3 (by omega))
  have en : ∀ i, i < 32 → i ≠ 3 → wN (fu z 3 (ni (wN z 3 + 1))) i = wN w i := fun i hi h1 => (wN_fu_n h1).trans (wN_eq (zw i (by omega)))
  have hI : ∀ o k', (o = r ∧ k' ≠ 13) ∨ (r < o ∧ o < r + 11) ∨ (13 + r ≤ o ∧ o < r + 39) ∨ (2 ≤ o ∧ o < 8) → I' o k' = I o k' := fun o k' e => g4 o k' (by omega) (by omega) (by omega)
  rw [e1]
  rw [e1] at en
  refine ⟨⟨⟨?_, ?_, ?_, ?_, ?_, ?_⟩, fun c hc => ?_, fun p hp => ?_, fun q hq => ?_, fun j hj => ?_, fun d hd => ?_⟩, fun d hd => ?_⟩
  · rw [hI _ _ (by omega), c0, fu_n (by omega), zw 0 (by omega)]
  · rw [hI _ _ (by omega), c1, fu_n (by omega), zw 1 (by omega)]
  · rw [hI _ _ (by omega), c2, fu_n (by omega), zw 2 (by omega)]
  · rw [g3, fu_s]
  · rw [hI _ _ (by omega), c4, fu_n (by omega), zw 4 (by omega)]
  · rw [hI _ _ (by omega), c5, fu_n (by omega), zw 5 (by omega)]
  · rw [en 0 (by omega) (by omega)] at hc
    exact (hC c hc).of rfl (fun i hi => by rw [fu_n (by omega), zw _ (by omega)])
  · rw [en 1 (by omega) (by omega)] at hp
    exact (hP p hp).of (hG.2.1 p hp) (fun o e => hI _ _ (by omega)) (fun o k e hk => hI _ _ (by omega)) (fun i hi => hI _ _ (by omega)) (fun i hi => by rw [fu_n (by omega), zw _ (by omega)]) (fun i hi => by rw [fu_n (by omega), zw _ (by omega)])
  · rw [en 2 (by omega) (by omega)] at hq
    exact (hQ q hq).of (hI _ _ (by omega)) (hI _ _ (by omega)) (fun i hi => hI _ _ (by omega)) (fun i hi => by rw [fu_n (by omega), zw _ (by omega)])
  · rw [wN_fu_s (by omega)] at hj
    by_cases cj : j < wN w 3
    · exact (hN j cj).of (g4 _ _ (by omega) (by omega) (by omega)) (g4 _ _ (by omega) (by omega) (by omega)) (fun i hi => by rw [fu_n (by omega), hz _ (by omega)])
    · have : j = wN w 3 := by omega
      subst this
      exact g2.of rfl rfl (fun i hi => fu_n (by omega))
  · rw [en 4 (by omega) (by omega)] at hd
    exact (hD d hd).of (hI _ _ (by omega)) (hI _ _ (by omega)) (fun i hi => by rw [fu_n (by omega), hz _ (by omega)])
  · rw [en 4 (by omega) (by omega)] at hd
    exact (hx d hd).of (hI _ _ (by omega)) (hI _ _ (by omega)) (fun i hi => by rw [fu_n (by omega), hz _ (by omega)])
theorem cG.drop {I I' : am_I} {J : am_J} {w z : Nat → Int32} (h : cG r I J w) (hx : cGxs I w) (hG : WG w) (hr : r = 16 ∨ r = 55) (hk : wN w 4 < 8) (hz : ∀ i, (i < 1008 + 4 * wN w 4 ∨ 1008 + 4 * wN w 4 + 4 ≤ i) → z i = w i) (g2 : cGd r I' z (wN w 4)) (g2' : cGx I' z (wN w 4)) (g3 : I' r 16 = ni (wN w 4 + 1)) (g4 : ∀ o k', ¬ (o = 1 ∧ (k' = 3 ∨ k' = 7 ∨ k' = 8 ∨ k' = 9)) → ¬ (o = r ∧ k' = 16) → ¬ ((o = r + 13 ∨ o = r + 14 ∨ o = 5 ∨ o = 6) ∧ k' = wN w 4) → I' o k' = I o k') : cG r I' J (fu z 4 (ni (wN z 4 + 1))) ∧ cGxs I' (fu z 4 (ni (wN z 4 + 1))) := by
  have hO := cO_le hr
  obtain ⟨⟨c0, c1, c2, c3, c4, c5⟩, hC, hP, hQ, hN, hD⟩ := h
  obtain ⟨⟨⟨w0, w0'⟩, ⟨w1, w1'⟩, ⟨w2, w2'⟩, ⟨w3, w3'⟩, ⟨w4, w4'⟩, wk⟩, -⟩ := id hG
  have zw : ∀ i, i < 1008 → z i = w i := fun i hi => hz i (by omega)
  have e1 : wN z 4 = wN w 4 := wN_eq (zw 4 (by omega))
  have en : ∀ i, i < 32 → i ≠ 4 → wN (fu z 4 (ni (wN z 4 + 1))) i = wN w i := fun i hi h1 => (wN_fu_n h1).trans (wN_eq (zw i (by omega)))
  have hI : ∀ o k', (o = r ∧ k' ≠ 16) ∨ (r < o ∧ o < r + 13) ∨ (15 + r ≤ o ∧ o < r + 39) → I' o k' = I o k' := fun o k' e => g4 o k' (by omega) (by omega) (by omega)
  rw [e1]
  rw [e1] at en
  refine ⟨⟨⟨?_, ?_, ?_, ?_, ?_, ?_⟩, fun c hc => ?_, fun p hp => ?_, fun q hq => ?_, fun j hj => ?_, fun d hd => ?_⟩, fun d hd => ?_⟩
  · rw [hI _ _ (by omega), c0, fu_n (by omega), zw 0 (by omega)]
  · rw [hI _ _ (by omega), c1, fu_n (by omega), zw 1 (by omega)]
  · rw [hI _ _ (by omega), c2, fu_n (by omega), zw 2 (by omega)]
  · rw [hI _ _ (by omega), c3, fu_n (by omega), zw 3 (by omega)]
  · rw [g3, fu_s]
  · rw [hI _ _ (by omega), c5, fu_n (by omega), zw 5 (by omega)]
  · rw [en 0 (by omega) (by omega)] at hc
    exact (hC c hc).of rfl (fun i hi => by rw [fu_n (by omega), zw _ (by omega)])
  · rw [en 1 (by omega) (by omega)] at hp
    exact (hP p hp).of (hG.2.1 p hp) (fun o e => hI _ _ (by omega)) (fun o k e hk => hI _ _ (by omega)) (fun i hi => hI _ _ (by omega)) (fun i hi => by rw [fu_n (by omega), zw _ (by omega)]) (fun i hi => by rw [fu_n (by omega), zw _ (by omega)])
  · rw [en 2 (by omega) (by omega)] at hq
    exact (hQ q hq).of (hI _ _ (by omega)) (hI _ _ (by omega)) (fun i hi => hI _ _ (by omega)) (fun i hi => by rw [fu_n (by omega), zw _ (by omega)])
  · rw [en 3 (by omega) (by omega)] at hj
    exact (hN j hj).of (hI _ _ (by omega)) (hI _ _ (by omega)) (fun i hi => by rw [fu_n (by omega), zw _ (by omega)])
  · rw [wN_fu_s (by omega)] at hd
    by_cases cd : d < wN w 4
    · exact (hD d cd).of (g4 _ _ (by omega) (by omega) (by omega)) (g4 _ _ (by omega) (by omega) (by omega)) (fun i hi => by rw [fu_n (by omega), hz _ (by omega)])
    · have : d = wN w 4 := by omega
      subst this
      exact g2.of rfl rfl (fun i hi => fu_n (by omega))
  · rw [wN_fu_s (by omega)] at hd
    by_cases cd : d < wN w 4
    · exact (hx d cd).of (g4 _ _ (by omega) (by omega) (by omega)) (g4 _ _ (by omega) (by omega) (by omega)) (fun i hi => by rw [fu_n (by omega), hz _ (by omega)])
    · have : d = wN w 4 := by omega
      subst this
      exact g2'.of rfl rfl (fun i hi => fu_n (by omega))
theorem cG.set {I I' : am_I} {J J' : am_J} {w z : Nat → Int32} (h : cG r I J w) (hx : cGxs I w) (hG : WG w) (hr : r = 16 ∨ r = 55) (hk : wN w 0 < 8) (hz : ∀ i, (i < 8 + 3 * wN w 0 ∨ 8 + 3 * wN w 0 + 3 ≤ i) → z i = w i) (g2 : cGc r J' z (wN w 0)) (g3 : I' r 1 = ni (wN w 0 + 1)) (gJ : ∀ c, c < wN w 0 → J' (cO r + c) = J (cO r + c)) (g4 : ∀ o k', ¬ (o = 1 ∧ (k' = 3 ∨ k' = 7 ∨ k' = 8 ∨ k' = 9)) → ¬ (o = r ∧ k' = 1) → I' o k' = I o k') : cG r I' J' (fu z 0 (ni (wN z 0 + 1))) ∧ cGxs I' (fu z 0 (ni (wN z 0 + 1))) := by
  have hO := cO_le hr
  obtain ⟨⟨c0, c1, c2, c3, c4, c5⟩, hC, hP, hQ, hN, hD⟩ := h
  have zw : ∀ i, (i < 8 ∨ 32 ≤ i) → z i = w i := fun i hi => hz i (by omega)
  have e1 : wN z 0 = wN w 0 := wN_eq (zw 0 (by omega))
  have en : ∀ i, i < 8 → i ≠ 0 → wN (fu z 0 (ni (wN z 0 + 1))) i = wN w i := fun i hi h1 => (wN_fu_n h1).trans (wN_eq (zw i (by omega)))
  have hI : ∀ o k', (o = r ∧ k' ≠ 1) ∨ (r < o ∧ o < r + 39) ∨ (2 ≤ o ∧ o < 8) → I' o k' = I o k' := fun o k' e => g4 o k' (by omega) (by omega)
  rw [e1]
  rw [e1] at en
  refine ⟨⟨⟨?_, ?_, ?_, ?_, ?_, ?_⟩, fun c hc => ?_, fun p hp => ?_, fun q hq => ?_, fun j hj => ?_, fun d hd => ?_⟩, fun d hd => ?_⟩
  · rw [g3, fu_s]
  · rw [hI _ _ (by omega), c1, fu_n (by omega), zw 1 (by omega)]
  · rw [hI _ _ (by omega), c2, fu_n (by omega), zw 2 (by omega)]
  · rw [hI _ _ (by omega), c3, fu_n (by omega), zw 3 (by omega)]
  · rw [hI _ _ (by omega), c4, fu_n (by omega), zw 4 (by omega)]
  · rw [hI _ _ (by omega), c5, fu_n (by omega), zw 5 (by omega)]
  · rw [wN_fu_s (by omega)] at hc
    by_cases cc : c < wN w 0
    · exact (hC c cc).of (gJ c cc) (fun i hi => by rw [fu_n (by omega), hz _ (by omega)])
    · have : c = wN w 0 := by omega
      subst this
      exact g2.of rfl (fun i hi => fu_n (by omega))
  · rw [en 1 (by omega) (by omega)] at hp
    exact (hP p hp).of (hG.2.1 p hp) (fun o e => hI _ _ (by omega)) (fun o k e hk => hI _ _ (by omega)) (fun i hi => hI _ _ (by omega)) (fun i hi => by rw [fu_n (by omega), zw _ (by omega)]) (fun i hi => by rw [fu_n (by omega), zw _ (by omega)])
  · rw [en 2 (by omega) (by omega)] at hq
    exact (hQ q hq).of (hI _ _ (by omega)) (hI _ _ (by omega)) (fun i hi => hI _ _ (by omega)) (fun i hi => by rw [fu_n (by omega), zw _ (by omega)])
  · rw [en 3 (by omega) (by omega)] at hj
    exact (hN j hj).of (hI _ _ (by omega)) (hI _ _ (by omega)) (fun i hi => by rw [fu_n (by omega), zw _ (by omega)])
  · rw [en 4 (by omega) (by omega)] at hd
    exact (hD d hd).of (hI _ _ (by omega)) (hI _ _ (by omega)) (fun i hi => by rw [fu_n (by omega), zw _ (by omega)])
  · rw [en 4 (by omega) (by omega)] at hd
    exact (hx d hd).of (hI _ _ (by omega)) (hI _ _ (by omega)) (fun i hi => by rw [fu_n (by omega), zw _ (by omega)])
theorem cG.lay {I I' : am_I} {J : am_J} {w : Nat → Int32} {x : Nat} (h : cG r I J w) (hx : cGxs I w) (hG : WG w) (hr : r = 16 ∨ r = 55) (g3 : I' r 19 = ni x) (g4 : ∀ o k', ¬ (o = 1 ∧ (k' = 3 ∨ k' = 7 ∨ k' = 8 ∨ k' = 9)) → ¬ (o = r ∧ k' = 19) → I' o k' = I o k') : cG r I' J (fu w 5 (ni x)) ∧ cGxs I' (fu w 5 (ni x)) := by
  have hO := cO_le hr
  obtain ⟨⟨c0, c1, c2, c3, c4, c5⟩, hC, hP, hQ, hN, hD⟩ := h
  have en : ∀ i, i ≠ 5 → wN (fu w 5 (ni x)) i = wN w i := fun i h1 => wN_fu_n h1
  have hI : ∀ o k', (o = r ∧ k' ≠ 19) ∨ (r < o ∧ o < r + 39) ∨ (2 ≤ o ∧ o < 8) → I' o k' = I o k' := fun o k' e => g4 o k' (by omega) (by omega)
  refine ⟨⟨⟨?_, ?_, ?_, ?_, ?_, ?_⟩, fun c hc => ?_, fun p hp => ?_, fun q hq => ?_, fun j hj => ?_, fun d hd => ?_⟩, fun d hd => ?_⟩
  · rw [hI _ _ (by omega), c0, fu_n (by omega)]
  · rw [hI _ _ (by omega), c1, fu_n (by omega)]
  · rw [hI _ _ (by omega), c2, fu_n (by omega)]
  · rw [hI _ _ (by omega), c3, fu_n (by omega)]
  · rw [hI _ _ (by omega), c4, fu_n (by omega)]
  · rw [g3, fu_s]
  · rw [en 0 (by omega)] at hc
    exact (hC c hc).of rfl (fun i hi => fu_n (by omega))
  · rw [en 1 (by omega)] at hp
    exact (hP p hp).of (hG.2.1 p hp) (fun o e => hI _ _ (by omega)) (fun o k e hk => hI _ _ (by omega)) (fun i hi => hI _ _ (by omega)) (fun i hi => fu_n (by omega)) (fun i hi => fu_n (by omega))
  · rw [en 2 (by omega)] at hq
    exact (hQ q hq).of (hI _ _ (by omega)) (hI _ _ (by omega)) (fun i hi => hI _ _ (by omega)) (fun i hi => fu_n (by omega))
  · rw [en 3 (by omega)] at hj
    exact (hN j hj).of (hI _ _ (by omega)) (hI _ _ (by omega)) (fun i hi => fu_n (by omega))
  · rw [en 4 (by omega)] at hd
    exact (hD d hd).of (hI _ _ (by omega)) (hI _ _ (by omega)) (fun i hi => fu_n (by omega))
  · rw [en 4 (by omega)] at hd
    exact (hx d hd).of (hI _ _ (by omega)) (hI _ _ (by omega)) (fun i hi => fu_n (by omega))
end CG4
