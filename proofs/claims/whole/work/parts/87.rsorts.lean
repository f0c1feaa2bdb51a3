/-! Closures and layers: what they are; the reference's sorts -/
theorem ndStep_mono {s t : Nat} {R : Nat → Nat → Bool} {a u : Nat} (h : R a u = true) : ndStep s t R a u = true := by
  unfold ndStep
  split
  · rename_i c; subst c; rw [h]; rfl
  · exact h
theorem ndRow_p {m s : Nat} {R : Nat → Nat → Bool} : (∀ a u, R a u = true → ndRow m s R a u = true) ∧ (∀ t, t < m → ∀ u, R s t = true → R t u = true → ndRow m s R s u = true) :=
  foldN_ind (Q := fun (k : Nat) (y : Nat → Nat → Bool) => (∀ a u, R a u = true → y a u = true) ∧ (∀ t, t < k → ∀ u, R s t = true → R t u = true → y s u = true)) ⟨fun _ _ h => h, fun t ht => absurd ht (by omega)⟩ (fun k y hk hy => ⟨fun a u h => ndStep_mono (hy.1 a u h), fun t ht u h1 h2 => by
    by_cases c : t = k
    · subst c
      unfold ndStep
      rw [if_pos rfl, hy.1 _ _ h1, hy.1 _ _ h2]
      simp
    · exact ndStep_mono (hy.2 t (by omega) u h1 h2)⟩)
theorem ndTurn_p {m : Nat} {R : Nat → Nat → Bool} : (∀ a u, R a u = true → ndTurn m R a u = true) ∧ (∀ s, s < m → ∀ t, t < 8 → ∀ u, R s t = true → R t u = true → ndTurn m R s u = true) :=
  foldN_ind (Q := fun (k : Nat) (y : Nat → Nat → Bool) => (∀ a u, R a u = true → y a u = true) ∧ (∀ s, s < k → ∀ t, t < 8 → ∀ u, R s t = true → R t u = true → y s u = true)) ⟨fun _ _ h => h, fun t ht => absurd ht (by omega)⟩ (fun k y hk hy => ⟨fun a u h => ndRow_p.1 a u (hy.1 a u h), fun s hs t ht u h1 h2 => by
    by_cases c : s = k
    · subst c
      exact ndRow_p.2 t ht u (hy.1 _ _ h1) (hy.1 _ _ h2)
    · exact ndRow_p.1 _ _ (hy.2 s (by omega) t ht u h1 h2)⟩)
theorem nd_sub {E : Nat → Nat → Prop} {R : Nat → Nat → Bool} {m : Nat} (hm : m ≤ 8) (h : ∀ a b, R a b = true → a < 8 ∧ b < 8 ∧ trE E a b) : ∀ a b, ndTurn m R a b = true → a < 8 ∧ b < 8 ∧ trE E a b := by
  refine foldN_ind (Q := fun (k : Nat) (y : Nat → Nat → Bool) => ∀ a b, y a b = true → a < 8 ∧ b < 8 ∧ trE E a b) h (fun s y hs hy => ?_)
  refine foldN_ind (Q := fun (k : Nat) (y : Nat → Nat → Bool) => ∀ a b, y a b = true → a < 8 ∧ b < 8 ∧ trE E a b) hy (fun t z ht hz a b hab => ?_)
  unfold ndStep at hab
  split at hab
  · rename_i c
    subst c
    rw [Bool.or_eq_true, Bool.and_eq_true] at hab
    rcases hab with h1 | ⟨h1, h2⟩
    · exact hz _ _ h1
    · obtain ⟨f1, f2, f3⟩ := hz _ _ h1
      obtain ⟨g1, g2, g3⟩ := hz _ _ h2
      exact ⟨f1, g2, trE_tr f1 f2 g2 f3 g3⟩
  · exact hz _ _ hab
/-- what is needed, as the reference finds it, is the closure -/
theorem ndW_iff {w : Nat → Int32} (hG : WG w) {s t : Nat} (hs : s < 8) (ht : t < 8) : (ndW w 8 s t = true) ↔ trE (fun a b => ndE w a b = true) s t := by
  have hE : ∀ a b, ndE w a b = true → a < 8 ∧ b < 8 := by
    intro a b h
    unfold ndE at h
    rw [Bool.or_eq_true] at h
    rcases h with h | h
    · exact useW_lt hG h
    · exact drpW_lt hG h
  constructor
  · have := foldN_ind (n := 8) (f := fun _ R => ndTurn 8 R) (a := ndE w) (Q := fun (k : Nat) (y : Nat → Nat → Bool) => ∀ a b, y a b = true → a < 8 ∧ b < 8 ∧ trE (fun a b => ndE w a b = true) a b) (fun a b h => ⟨(hE a b h).1, (hE a b h).2, trE_E (hE a b h).1 (hE a b h).2 h⟩) (fun k y _ hy => nd_sub (m := 8) (by omega) hy)
    exact fun h => (this s t h).2.2
  · have hsub : ∀ j a u, ndE w a u = true → ndW w j a u = true := by
      intro j
      induction j with
      | zero => intro a u h; exact h
      | succ j ih => intro a u h; exact ndTurn_p.1 a u (ih a u h)
    exact tr_round (E := fun a b => ndE w a b = true) (X := fun j t => ndW w j s t) hs (fun t _ h => h) (fun j t _ h => ndTurn_p.1 s t h) (fun j t u ht hu h1 h2 => ndTurn_p.2 s hs t ht u h1 (hsub j t u h2)) t ht
theorem ly_all {w : Nat → Int32} {v : Nat → Nat} : (∀ a, v a ≤ lyAll w 8 v a) ∧ (∀ s t, s < 8 → t < 8 → useW w s t = true → v t ≤ lyAll w 8 v s) := by
  have hstep : ∀ s t (y : Nat → Nat), (∀ a, y a ≤ lyS w s t y a) ∧ (useW w s t = true → y t ≤ lyS w s t y s) := by
    intro s t y
    refine ⟨fun a => ?_, fun hU => ?_⟩
    · unfold lyS
      split
      · rename_i c; rw [c.1]; omega
      · exact Nat.le_refl _
    · unfold lyS
      by_cases c : y s < y t
      · rw [if_pos ⟨rfl, hU, c⟩]
        exact Nat.le_refl _
      · rw [if_neg (fun z => c z.2.2)]; omega
  have hrow : ∀ m s (y : Nat → Nat), (∀ a, y a ≤ lyRow w m s y a) ∧ (∀ t, t < m → useW w s t = true → y t ≤ lyRow w m s y s) := by
    intro m s y
    refine foldN_ind (Q := fun (k : Nat) (z : Nat → Nat) => (∀ a, y a ≤ z a) ∧ (∀ t, t < k → useW w s t = true → y t ≤ z s)) ⟨fun _ => Nat.le_refl _, fun t ht => absurd ht (by omega)⟩ (fun k z hk hz => ⟨fun a => Nat.le_trans (hz.1 a) ((hstep s k z).1 a), fun t ht hU => ?_⟩)
    by_cases c : t = k
    · subst c
      exact Nat.le_trans (hz.1 t) ((hstep s t z).2 hU)
    · exact Nat.le_trans (hz.2 t (by omega) hU) ((hstep s k z).1 s)
  have := foldN_ind (n := 8) (f := fun s v => lyRow w 8 s v) (a := v) (Q := fun (k : Nat) (z : Nat → Nat) => (∀ a, v a ≤ z a) ∧ (∀ s t, s < k → t < 8 → useW w s t = true → v t ≤ z s)) ⟨fun _ => Nat.le_refl _, fun s t hs => absurd hs (by omega)⟩ (fun k z hk hz => ⟨fun a => Nat.le_trans (hz.1 a) ((hrow 8 k z).1 a), fun s t hs ht hU => by
    by_cases c : s = k
    · subst c
      exact Nat.le_trans (hz.1 t) ((hrow 8 s z).2 t ht hU)
    · exact Nat.le_trans (hz.2 s t (by omega) ht hU) ((hrow 8 k z).1 s)⟩)
  exact this
theorem ly_drs {w : Nat → Int32} {v : Nat → Nat} {m : Nat} : (∀ a, v a ≤ lyDrs w m v a) ∧ (∀ d, d < m → v (wN w (1008 + 4 * d + 1)) + 1 ≤ lyDrs w m v (wN w (1008 + 4 * d))) := by
  refine foldN_ind (Q := fun (k : Nat) (z : Nat → Nat) => (∀ a, v a ≤ z a) ∧ (∀ d, d < k → v (wN w (1008 + 4 * d + 1)) + 1 ≤ z (wN w (1008 + 4 * d)))) ⟨fun _ => Nat.le_refl _, fun t ht => absurd ht (by omega)⟩ (fun k z hk hz => ?_)
  have hst : ∀ a, z a ≤ lyDr w k z a := by
    intro a
    unfold lyDr
    split
    · rename_i c; rw [c.1]; omega
    · exact Nat.le_refl _
  refine ⟨fun a => Nat.le_trans (hz.1 a) (hst a), fun d hd => ?_⟩
  by_cases c : d = k
  · subst c
    have h1 := hz.1 (wN w (1008 + 4 * d + 1))
    unfold lyDr
    split
    · omega
    · rename_i h2
      have : ¬ z (wN w (1008 + 4 * d)) ≤ z (wN w (1008 + 4 * d + 1)) := fun y => h2 ⟨rfl, y⟩
      omega
  · exact Nat.le_trans (hz.2 d (by omega)) (hst _)
theorem drpW_iff {w : Nat → Int32} {s t : Nat} : (drpW w s t = true) ↔ ∃ d, d < wN w 4 ∧ wN w (1008 + 4 * d) = s ∧ wN w (1008 + 4 * d + 1) = t := by
  unfold drpW
  rw [anyB_iff]
  constructor
  · rintro ⟨d, h1, h2⟩
    unfold drpD at h2
    rw [Bool.and_eq_true, decide_eq_true_iff, decide_eq_true_iff] at h2
    exact ⟨d, h1, h2⟩
  · rintro ⟨d, h1, h2, h3⟩
    refine ⟨d, h1, ?_⟩
    unfold drpD
    rw [Bool.and_eq_true, decide_eq_true_iff, decide_eq_true_iff]
    exact ⟨h2, h3⟩
theorem ly_turn_sol {w : Nat → Int32} (hG : WG w) {v y : Nat → Nat} (hy : lySol (fun s t => useW w s t = true) (fun s t => drpW w s t = true) y) (h : ∀ s, s < 8 → v s ≤ y s) : ∀ s, s < 8 → lyTurn w v s ≤ y s := by
  unfold lyTurn
  refine foldN_ind (Q := fun (k : Nat) (z : Nat → Nat) => ∀ s, s < 8 → z s ≤ y s) ?_ (fun d z hd hz s hs => ?_)
  · refine foldN_ind (Q := fun (k : Nat) (z : Nat → Nat) => ∀ s, s < 8 → z s ≤ y s) h (fun s z hs hz => ?_)
    refine foldN_ind (Q := fun (k : Nat) (z : Nat → Nat) => ∀ s, s < 8 → z s ≤ y s) hz (fun t z ht hz a ha => ?_)
    unfold lyS
    split
    · rename_i c
      rw [c.1]
      exact Nat.le_trans (hz t ht) ((hy s t hs ht).1 c.2.1)
    · exact hz a ha
  · obtain ⟨g1, g2, g3, g4, g5⟩ := hG.dr hd
    unfold lyDr
    split
    · rename_i c
      rw [c.1]
      have h1 := hz _ g3
      have h2 := (hy _ _ g1 g3).2 (drpW_iff.mpr ⟨d, hd, rfl, rfl⟩)
      omega
    · exact hz s hs
theorem lyW_seq {w : Nat → Int32} (hG : WG w) : lySeq (fun s t => useW w s t = true) (fun s t => drpW w s t = true) (fun j => lyW w j) := by
  refine ⟨fun _ _ => rfl, fun j s _ => ?_, fun j y hy => ?_, fun j s t hs ht => ⟨fun hU => ?_, fun hD => ?_⟩⟩
  · exact Nat.le_trans (ly_all.1 s) (ly_drs.1 s)
  · induction j with
    | zero => intro s hs; exact Nat.zero_le _
    | succ j ih => exact ly_turn_sol hG hy ih
  · exact Nat.le_trans (ly_all.2 s t hs ht hU) (ly_drs.1 s)
  · obtain ⟨d, h1, h2, h3⟩ := drpW_iff.mp hD
    have h4 := ly_drs (w := w) (v := lyAll w 8 (lyW w j)) (m := wN w 4)
    have h5 := h4.2 d h1
    rw [h2, h3] at h5
    have h6 := (ly_all (w := w) (v := lyW w j)).1 t
    show lyW w j t + 1 ≤ lyDrs w (wN w 4) (lyAll w 8 (lyW w j)) s
    omega
/-- no sort that is dropped needs the one by which it is -/
def sndW (w : Nat → Int32) : Prop := ∀ s t, drpW w s t = true → ndW w 8 t s = false
/-- the layers are the least -/
theorem lyW_least {w : Nat → Int32} (hG : WG w) (hs : sndW w) : lySol (fun s t => useW w s t = true) (fun s t => drpW w s t = true) (lyW w 64) ∧ (∀ y, lySol (fun s t => useW w s t = true) (fun s t => drpW w s t = true) y → ∀ s, s < 8 → lyW w 64 s ≤ y s) ∧ ∀ s, s < 8 → lyW w 64 s ≤ 7 := by
  have hsol := ly_sol (U := fun s t => useW w s t = true) (D := fun s t => drpW w s t = true) (N := ndW w 8) (fun s t h1 h2 h => (ndW_iff hG h1 h2).mpr (trE_E h1 h2 (by unfold ndE; rw [h]; rfl))) (fun s t h1 h2 h => ⟨(ndW_iff hG h1 h2).mpr (trE_E h1 h2 (by unfold ndE; rw [h, Bool.or_true])), hs s t h⟩) (fun s t u h1 h2 h3 g1 g2 => (ndW_iff hG h1 h3).mpr (trE_tr h1 h2 h3 ((ndW_iff hG h1 h2).mp g1) ((ndW_iff hG h2 h3).mp g2)))
  have hseq := lyW_seq hG
  exact ⟨ly_64 hseq hsol.1 hsol.2, hseq.2.2.1 64, fun s h => Nat.le_trans (hseq.2.2.1 64 _ hsol.1 s h) (hsol.2 s h)⟩
/-- the reference's sorts -/
def rSo (I : am_I) (w : Nat → Int32) : Prop := btR I 169 (useW w) ∧ btR I 170 (ndW w 8) ∧ nmR I 171 (lyW w 64)
section RS3
variable {d0 : Nat} {P : am_O → Prop} {J : am_J} {Pf : am_R} {w : Nat → Int32} {x : Nat}
theorem sr_sorts (hp : am_PF Pf) (hx : am_SH[x]? = some (.inr (0, 1040))) (hx9 : x ≠ 169) (hx7 : x ≠ 170) (hx71 : x ≠ 171) (hG : WG w) {I : am_I} (hw : I x = w)
    (kk : ∀ I', rSo I' w → (∀ o k, o ≠ 169 → o ≠ 170 → o ≠ 171 → I' o k = I o k) → P (.inl none, (am_SH, I', J, Pf), 0, 0)) : am_mth (d0 + 2) 231 [.ref 163, .ref x] (am_SH, I, J, Pf) P := by
  obtain ⟨⟨w0, w0'⟩, ⟨w1, w1'⟩, ⟨w2, w2'⟩, ⟨w3, w3'⟩, ⟨w4, w4'⟩, wk⟩ := id hG.1
  -- drops
  have LD : ∀ (m : Nat) (I : am_I) (d : Nat) (l3 l4 l5 : Option Value), wN w 4 - d = m → d ≤ wN w 4 → I x = w → btR I 170 (fun s t => useW w s t || anyB d (drpD w s t)) → (∀ (I' : am_I) (l3 l4 l5 : Option Value), btR I' 170 (ndE w) → (∀ o k, o ≠ 170 → I' o k = I o k) → am_go none (d0 + 1) 231 (85, [some (.ref 163), some (.ref x), some (.int 0), l3, l4, l5], [], (am_SH, I', J, Pf), 0, 0) P) → am_go none (d0 + 1) 231 (40, [some (.ref 163), some (.ref x), some (.int (ni d)), l3, l4, l5], [], (am_SH, I, J, Pf), 0, 0) P := by
    intro m
    induction m with
    | zero =>
      intro I d l3 l4 l5 hm hd hw hB kk
      refine v231_40 hp hx ⟨by decide, ?_⟩
      rw [hw, show w (Int32.toNatClampNeg 4) = ni (wN w 4) from w4, if_pos ((ni_le (by omega) (by omega)).mpr (by omega))]
      have : d = wN w 4 := by omega
      subst this
      exact kk I _ _ _ hB (fun _ _ _ => rfl)
    | succ m ih =>
      intro I d l3 l4 l5 hm hd hw hB kk
      obtain ⟨g1, g2, g3, g4, g5⟩ := hG.dr (d := d) (by omega)
      refine v231_40 hp hx ⟨by decide, ?_⟩
      rw [hw, show w (Int32.toNatClampNeg 4) = ni (wN w 4) from w4, if_neg (fun z => absurd ((ni_le (by omega) (by omega)).mp z) (by omega)), i4, ni_p1, show (ni (1008 + 4 * d)).toNatClampNeg = 1008 + 4 * d from ni_nat (by omega), show (ni (1008 + 4 * d + 1)).toNatClampNeg = 1008 + 4 * d + 1 from ni_nat (by omega), g2, g4, show (ni (wN w (1008 + 4 * d))).toNatClampNeg = wN w (1008 + 4 * d) from ni_nat (by omega), ni_p1]
      refine ⟨ni_in (by omega) (by omega), ni_in (by omega) g1, ni_in (by omega) (by omega), ni_in (by omega) g1, ?_⟩
      refine ih _ (d + 1) _ _ _ (by omega) (by omega) ((am_u_o hx7).trans hw) (hB.set g1 (by omega) (fun a t ha ht => ?_)) (fun I' l3 l4 l5 f1 f2 => kk I' l3 l4 l5 f1 (fun o k e => (f2 o k e).trans (am_u_nq (by omega))))
      show (_ || (anyB d (drpD w a t) || drpD w a t d)) = _
      rw [← Bool.or_assoc]
      congr 1
      unfold drpD
      congr 1
      · exact decide_eq_decide.mpr eq_comm
      · exact decide_eq_decide.mpr eq_comm
  -- needs and layers begun
  have LI : ∀ (m : Nat) (I : am_I) (s : Nat) (l3 l4 l5 : Option Value), 8 - s = m → s ≤ 8 → (∀ i, i < s → I 170 i = I 169 i ∧ I 171 i = 0) → (∀ (I' : am_I) (l3 l4 l5 : Option Value), (∀ i, i < 8 → I' 170 i = I' 169 i ∧ I' 171 i = 0) → (∀ o k, o ≠ 170 → o ≠ 171 → I' o k = I o k) → am_go none (d0 + 1) 231 (40, [some (.ref 163), some (.ref x), some (.int 0), l3, l4, l5], [], (am_SH, I', J, Pf), 0, 0) P) → am_go none (d0 + 1) 231 (7, [some (.ref 163), some (.ref x), some (.int (ni s)), l3, l4, l5], [], (am_SH, I, J, Pf), 0, 0) P := by
    intro m
    induction m with
    | zero =>
      intro I s l3 l4 l5 hm hs hB kk
      have : s = 8 := by omega
      subst this
      refine v231_7 hp hx ?_
      rw [if_pos (by decide)]
      exact kk I _ _ _ hB (fun _ _ _ _ => rfl)
    | succ m ih =>
      intro I s l3 l4 l5 hm hs hB kk
      refine v231_7 hp hx ?_
      rw [if_neg (fun z => absurd ((gle 8 (by omega) (by omega)).mp z) (by omega)), ni_nat (by omega), ni_p1]
      refine ⟨ni_in (by omega) (by omega), ni_in (by omega) (by omega), ni_in (by omega) (by omega), ih _ (s + 1) _ _ _ (by omega) (by omega) (fun i hi => ?_) (fun I' l3 l4 l5 f1 f2 => kk I' l3 l4 l5 f1 (fun o k e1 e2 => (f2 o k e1 e2).trans (by rw [am_u_nq (by omega), am_u_nq (by omega)])))⟩
      by_cases c : i = s
      · subst c
        rw [am_u_nq (by omega), am_u_same, am_u_nq (by omega), am_u_nq (by omega), am_u_same]
        exact ⟨rfl, rfl⟩
      · rw [am_u_nq (by omega), am_u_nq (by omega), am_u_nq (by omega), am_u_nq (by omega), am_u_nq (by omega), am_u_nq (by omega)]
        exact hB i (by omega)
  refine am_mth_of rfl rfl (v231_0 hp hx (sr_uses (d := d0) hp hx hx9 hG hw (fun I1 h1 h2 => am_back (v231_5 hp hx ?_))))
  rw [ni_0]
  refine LI 8 I1 0 _ _ _ rfl (by omega) (fun i hi => absurd hi (by omega)) (fun I2 l3 l4 l5 h3 h4 => ?_)
  have w2 : I2 x = w := by rw [← hw]; funext k; rw [h4 _ _ hx7 hx71, h2 _ _ hx9]
  rw [ni_0]
  refine LD _ I2 0 _ _ _ rfl (Nat.zero_le _) w2 (fun s hs t ht => ?_) (fun I3 l3 l4 l5 h5 h6 => ?_)
  · rw [(h3 s hs).1, h4 _ _ (by omega) (by omega), h1 s hs t ht]
    show _ = (_ || false)
    rw [Bool.or_false]
  · rw [ni_0]
    refine rr_need (w := w) (x := x) hp hx hx7 8 I3 0 _ _ rfl (by omega) h5 (fun I4 l3 l4 h7 h8 => ?_)
    have hf : ∀ o k, o ≠ 169 → o ≠ 170 → o ≠ 171 → I4 o k = I o k := fun o k e1 e2 e3 => by rw [h8 o k e2, h6 o k e2, h4 o k e2 e3, h2 o k e1]
    have hU : btR I4 169 (useW w) := fun s hs t ht => by rw [h8 _ _ (by omega), h6 _ _ (by omega), h4 _ _ (by omega) (by omega)]; exact h1 s hs t ht
    rw [ni_0]
    refine rr_layers (w := w) (x := x) hp hx hx71 hG 64 I4 0 _ _ _ rfl (by omega) (by rw [← hw]; funext k; exact hf _ _ hx9 hx7 hx71) hU (fun s hs => ?_) (fun s => Nat.zero_le _) (fun I5 h9 _ h10 => kk I5 ⟨fun s hs t ht => by rw [h10 _ _ (by omega)]; exact hU s hs t ht, fun s hs t ht => by rw [h10 _ _ (by omega)]; exact h7 s hs t ht, h9⟩ (fun o k e1 e2 e3 => (h10 o k e3).trans (hf o k e1 e2 e3)))
    rw [h8 _ _ (by omega), h6 _ _ (by omega), (h3 s hs).2]
    rfl
end RS3
