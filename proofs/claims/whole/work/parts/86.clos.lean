/-! The reference: closures and layers -/
def foldN {α : Type} : Nat → (Nat → α → α) → α → α
  | 0, _, a => a
  | n + 1, f, a => f n (foldN n f a)
def ndStep (s t : Nat) (R : Nat → Nat → Bool) : Nat → Nat → Bool := fun a u => if a = s then (R s u || (R s t && R t u)) else R a u
def ndRow (m s : Nat) (R : Nat → Nat → Bool) : Nat → Nat → Bool := foldN m (fun t R => ndStep s t R) R
def ndTurn (m : Nat) (R : Nat → Nat → Bool) : Nat → Nat → Bool := foldN m (fun s R => ndRow 8 s R) R
def ndE (w : Nat → Int32) : Nat → Nat → Bool := fun s t => useW w s t || drpW w s t
def ndW (w : Nat → Int32) (j : Nat) : Nat → Nat → Bool := foldN j (fun _ R => ndTurn 8 R) (ndE w)
def lyS (w : Nat → Int32) (s t : Nat) (v : Nat → Nat) : Nat → Nat := fun a => if a = s ∧ useW w s t = true ∧ v s < v t then v t else v a
def lyRow (w : Nat → Int32) (m s : Nat) (v : Nat → Nat) : Nat → Nat := foldN m (fun t v => lyS w s t v) v
def lyAll (w : Nat → Int32) (m : Nat) (v : Nat → Nat) : Nat → Nat := foldN m (fun s v => lyRow w 8 s v) v
def lyDr (w : Nat → Int32) (d : Nat) (v : Nat → Nat) : Nat → Nat := fun a => if a = wN w (1008 + 4 * d) ∧ v (wN w (1008 + 4 * d)) ≤ v (wN w (1008 + 4 * d + 1)) then v (wN w (1008 + 4 * d + 1)) + 1 else v a
def lyDrs (w : Nat → Int32) (m : Nat) (v : Nat → Nat) : Nat → Nat := foldN m (fun d v => lyDr w d v) v
def lyTurn (w : Nat → Int32) (v : Nat → Nat) : Nat → Nat := lyDrs w (wN w 4) (lyAll w 8 v)
def lyW (w : Nat → Int32) (j : Nat) : Nat → Nat := foldN j (fun _ v => lyTurn w v) (fun _ => 0)
/-- a row of eight numbers -/
def nmR (I : am_I) (o : Nat) (v : Nat → Nat) : Prop := ∀ s, s < 8 → I o s = ni (v s)
theorem useW_lt {w : Nat → Int32} (hG : WG w) {s t : Nat} (h : useW w s t = true) : s < 8 ∧ t < 8 := by
  unfold useW at h
  rw [Bool.or_eq_true, anyB_iff, anyB_iff] at h
  rcases h with ⟨p, h1, h2⟩ | ⟨q, h1, h2⟩
  · unfold useP at h2
    obtain ⟨g1, g2, g3, g4, g5, g6⟩ := hG.pr h1
    rw [Bool.and_eq_true, decide_eq_true_iff, anyB_iff] at h2
    obtain ⟨e1, k, hk, e2⟩ := h2
    rw [Bool.and_eq_true, decide_eq_true_iff, decide_eq_true_iff] at e2
    have := WG.so (g6 k hk) e2.1
    omega
  · unfold useQ at h2
    have := hG.qu h1
    rw [Bool.and_eq_true, decide_eq_true_iff, decide_eq_true_iff] at h2
    omega
theorem drpW_lt {w : Nat → Int32} (hG : WG w) {s t : Nat} (h : drpW w s t = true) : s < 8 ∧ t < 8 := by
  unfold drpW at h
  rw [anyB_iff] at h
  obtain ⟨d, h1, h2⟩ := h
  unfold drpD at h2
  have := hG.dr h1
  rw [Bool.and_eq_true, decide_eq_true_iff, decide_eq_true_iff] at h2
  omega
/-- nothing stands behind the eighth -/
def ndB (R : Nat → Nat → Bool) : Prop := ∀ s t, R s t = true → t < 8
theorem ndB.step {R : Nat → Nat → Bool} (h : ndB R) (s t : Nat) : ndB (ndStep s t R) := by
  intro a u hu
  unfold ndStep at hu
  split at hu
  · rw [Bool.or_eq_true, Bool.and_eq_true] at hu
    rcases hu with hu | hu
    · exact h _ _ hu
    · exact h _ _ hu.2
  · exact h _ _ hu
theorem foldN_ind {α : Type} {Q : Nat → α → Prop} {f : Nat → α → α} {a : α} {n : Nat} (h0 : Q 0 a) (h1 : ∀ k y, k < n → Q k y → Q (k + 1) (f k y)) : Q n (foldN n f a) := by
  have : ∀ m, m ≤ n → Q m (foldN m f a) := by
    intro m
    induction m with
    | zero => intro _; exact h0
    | succ m ih => intro hm; exact h1 m _ (by omega) (ih (by omega))
  exact this n (Nat.le_refl _)
theorem ndB.row {R : Nat → Nat → Bool} (h : ndB R) (m s : Nat) : ndB (ndRow m s R) := foldN_ind (Q := fun _ y => ndB y) h (fun _ _ _ hy => hy.step _ _)
theorem ndB.turn {R : Nat → Nat → Bool} (h : ndB R) (m : Nat) : ndB (ndTurn m R) := foldN_ind (Q := fun _ y => ndB y) h (fun _ _ _ hy => hy.row _ _)
theorem ndB.E {w : Nat → Int32} (hG : WG w) : ndB (ndE w) := by
  intro s t h
  unfold ndE at h
  rw [Bool.or_eq_true] at h
  rcases h with h | h
  · exact (useW_lt hG h).2
  · exact (drpW_lt hG h).2
theorem ndB.W {w : Nat → Int32} (hG : WG w) (j : Nat) : ndB (ndW w j) := foldN_ind (Q := fun _ y => ndB y) (ndB.E hG) (fun _ _ _ hy => hy.turn _)
section RS2
variable {d d0 : Nat} {P : am_O → Prop} {J : am_J} {Pf : am_R} {w : Nat → Int32} {x : Nat}
/-- the closure's turns -/
theorem rr_need (hp : am_PF Pf) (hx : am_SH[x]? = some (.inr (0, 1040))) (hx7 : x ≠ 170) {l5 : Option Value} : ∀ (m : Nat) (I : am_I) (j : Nat) (l3 l4 : Option Value), 8 - j = m → j ≤ 8 → btR I 170 (ndW w j) → (∀ (I' : am_I) (l3 l4 : Option Value), btR I' 170 (ndW w 8) → (∀ o k, o ≠ 170 → I' o k = I o k) → am_go none d 231 (164, [some (.ref 163), some (.ref x), some (.int 0), l3, l4, l5], [], (am_SH, I', J, Pf), 0, 0) P) → am_go none d 231 (85, [some (.ref 163), some (.ref x), some (.int (ni j)), l3, l4, l5], [], (am_SH, I, J, Pf), 0, 0) P := by
  -- one step
  have ST : ∀ (I : am_I) (R : Nat → Nat → Bool) (s t : Nat) (x2 : Int32), s < 8 → t < 8 → btR I 170 R → (∀ I', btR I' 170 (ndStep s t R) → (∀ o k, o ≠ 170 → I' o k = I o k) → am_go none d 231 (102, [some (.ref 163), some (.ref x), some (.int x2), some (.int (ni s)), some (.int (ni (t + 1))), l5], [], (am_SH, I', J, Pf), 0, 0) P) → am_go none d 231 (102, [some (.ref 163), some (.ref x), some (.int x2), some (.int (ni s)), some (.int (ni t)), l5], [], (am_SH, I, J, Pf), 0, 0) P := by
    intro I R s t x2 hs ht hB kk
    refine v231_102 hp hx ?_
    rw [if_neg (fun z => absurd ((gle 8 (by omega) (by omega)).mp z) (by omega)), show (ni s).toNatClampNeg = s from ni_nat (by omega), show (ni t).toNatClampNeg = t from ni_nat (by omega), ni_p1]
    refine ⟨ni_in (by omega) hs, ni_in (by omega) hs, ?_⟩
    have hbit := bI_sh (v := I 170 s) (j := t) (by omega)
    have hr : ∀ v : Int32, (∀ u, u < 32 → bI v u = ndStep s t R s u) → btR (am_u I 170 s v) 170 (ndStep s t R) := by
      intro v hv a ha u hu
      by_cases c : a = s
      · subst c; rw [am_u_same]; exact hv u hu
      · rw [am_u_nq (by omega), hB a ha u hu]
        unfold ndStep
        rw [if_neg c]
    have e : ∀ u, ndStep s t R s u = (R s u || (R s t && R t u)) := fun u => if_pos rfl
    by_cases c : bI (I 170 s) t = true
    · rw [if_pos (hbit.mpr c)]
      rw [hB s hs t (by omega)] at c
      refine ⟨ni_in (by omega) ht, ni_in (by omega) hs, kk _ (hr _ (fun u hu => ?_)) (fun o k h => am_u_nq (by omega))⟩
      rw [e, bI_or, hB s hs u hu, hB t ht u hu, c, Bool.true_and]
    · rw [if_neg (fun z => c (hbit.mp z))]
      rw [hB s hs t (by omega), Bool.not_eq_true] at c
      refine ⟨ni_in (by omega) hs, kk _ (hr _ (fun u hu => ?_)) (fun o k h => am_u_nq (by omega))⟩
      rw [e, bI_or, hB s hs u hu, c, bI_0]
      rfl
  have ROW : ∀ (m : Nat) (I : am_I) (R : Nat → Nat → Bool) (s t : Nat) (x2 : Int32), 8 - t = m → t ≤ 8 → s < 8 → btR I 170 (ndRow t s R) → (∀ (I' : am_I) (l4 : Option Value), btR I' 170 (ndRow 8 s R) → (∀ o k, o ≠ 170 → I' o k = I o k) → am_go none d 231 (93, [some (.ref 163), some (.ref x), some (.int x2), some (.int (ni (s + 1))), l4, l5], [], (am_SH, I', J, Pf), 0, 0) P) → am_go none d 231 (102, [some (.ref 163), some (.ref x), some (.int x2), some (.int (ni s)), some (.int (ni t)), l5], [], (am_SH, I, J, Pf), 0, 0) P := by
    intro m
    induction m with
    | zero =>
      intro I R s t x2 hm ht hs hB kk
      have : t = 8 := by omega
      subst this
      refine v231_102 hp hx ?_
      rw [if_pos (by decide), ni_p1]
      exact kk I _ hB (fun _ _ _ => rfl)
    | succ m ih =>
      intro I R s t x2 hm ht hs hB kk
      exact ST I _ s t x2 hs (by omega) hB (fun I' f1 f2 => ih I' R s (t + 1) x2 (by omega) (by omega) hs f1 (fun I'' l4 g1 g2 => kk I'' l4 g1 (fun o k e => (g2 o k e).trans (f2 o k e))))
  have ALL : ∀ (m : Nat) (I : am_I) (R : Nat → Nat → Bool) (s j : Nat) (l4 : Option Value), 8 - s = m → s ≤ 8 → btR I 170 (ndTurn s R) → (∀ (I' : am_I) (l3 l4 : Option Value), btR I' 170 (ndTurn 8 R) → (∀ o k, o ≠ 170 → I' o k = I o k) → am_go none d 231 (85, [some (.ref 163), some (.ref x), some (.int (ni (j + 1))), l3, l4, l5], [], (am_SH, I', J, Pf), 0, 0) P) → am_go none d 231 (93, [some (.ref 163), some (.ref x), some (.int (ni j)), some (.int (ni s)), l4, l5], [], (am_SH, I, J, Pf), 0, 0) P := by
    intro m
    induction m with
    | zero =>
      intro I R s j l4 hm hs hB kk
      have : s = 8 := by omega
      subst this
      refine v231_93 hp hx ?_
      rw [if_pos (by decide), ni_p1]
      exact kk I _ _ hB (fun _ _ _ => rfl)
    | succ m ih =>
      intro I R s j l4 hm hs hB kk
      refine v231_93 hp hx ?_
      rw [if_neg (fun z => absurd ((gle 8 (by omega) (by omega)).mp z) (by omega)), ni_0]
      exact ROW 8 I _ s 0 _ rfl (by omega) (by omega) hB (fun I' l4 f1 f2 => ih I' R (s + 1) j l4 (by omega) (by omega) f1 (fun I'' l3 l4 g1 g2 => kk I'' l3 l4 g1 (fun o k e => (g2 o k e).trans (f2 o k e))))
  intro m
  induction m with
  | zero =>
    intro I j l3 l4 hm hj hB kk
    have : j = 8 := by omega
    subst this
    refine v231_85 hp hx ?_
    rw [if_pos (by decide)]
    exact kk I _ _ hB (fun _ _ _ => rfl)
  | succ m ih =>
    intro I j l3 l4 hm hj hB kk
    refine v231_85 hp hx ?_
    rw [if_neg (fun z => absurd ((gle 8 (by omega) (by omega)).mp z) (by omega)), ni_0]
    exact ALL 8 I (ndW w j) 0 j _ rfl (by omega) hB (fun I' l3 l4 f1 f2 => ih I' (j + 1) l3 l4 (by omega) (by omega) f1 (fun I'' l3 l4 g1 g2 => kk I'' l3 l4 g1 (fun o k e => (g2 o k e).trans (f2 o k e))))
/-- the layers's turns -/
theorem rr_layers (hp : am_PF Pf) (hx : am_SH[x]? = some (.inr (0, 1040))) (hx71 : x ≠ 171) (hG : WG w) : ∀ (m : Nat) (I : am_I) (j : Nat) (l3 l4 l5 : Option Value), 64 - j = m → j ≤ 64 → I x = w → btR I 169 (useW w) → nmR I 171 (lyW w j) → (∀ s, lyW w j s ≤ 8 * j) → (∀ I', nmR I' 171 (lyW w 64) → (∀ s, lyW w 64 s ≤ 512) → (∀ o k, o ≠ 171 → I' o k = I o k) → P (.inl none, (am_SH, I', J, Pf), 0, 0)) → am_go none d0 231 (164, [some (.ref 163), some (.ref x), some (.int (ni j)), l3, l4, l5], [], (am_SH, I, J, Pf), 0, 0) P := by
  obtain ⟨⟨w0, w0'⟩, ⟨w1, w1'⟩, ⟨w2, w2'⟩, ⟨w3, w3'⟩, ⟨w4, w4'⟩, wk⟩ := id hG.1
  have nset : ∀ (I : am_I) (v v' : Nat → Nat) (s y : Nat), nmR I 171 v → (∀ a, v' a = if a = s then y else v a) → nmR (am_u I 171 s (ni y)) 171 v' := by
    intro I v v' s y h e a ha
    rw [e a]
    by_cases c : a = s
    · subst c; rw [am_u_same, if_pos rfl]
    · rw [am_u_nq (by omega), if_neg c]; exact h a ha
  -- one step
  have ST : ∀ (I : am_I) (v : Nat → Nat) (s t M : Nat) (x2 : Int32), M ≤ 600 → (∀ a, v a ≤ M) → s < 8 → t < 8 → btR I 169 (useW w) → nmR I 171 v → (∀ I', nmR I' 171 (lyS w s t v) → (∀ a, lyS w s t v a ≤ M) → (∀ o k, o ≠ 171 → I' o k = I o k) → ∀ l5, am_go none d0 231 (181, [some (.ref 163), some (.ref x), some (.int x2), some (.int (ni s)), some (.int (ni (t + 1))), l5], [], (am_SH, I', J, Pf), 0, 0) P) → ∀ l5, am_go none d0 231 (181, [some (.ref 163), some (.ref x), some (.int x2), some (.int (ni s)), some (.int (ni t)), l5], [], (am_SH, I, J, Pf), 0, 0) P := by
    intro I v s t M x2 hM hv hs ht hB hN kk l5
    have vs := hv s
    have vt := hv t
    refine v231_181 hp hx ?_
    rw [if_neg (fun z => absurd ((gle 8 (by omega) (by omega)).mp z) (by omega)), show (ni s).toNatClampNeg = s from ni_nat (by omega), show (ni t).toNatClampNeg = t from ni_nat (by omega), ni_p1]
    refine ⟨ni_in (by omega) hs, ?_⟩
    have hbit := bI_sh (v := I 169 s) (j := t) (by omega)
    rw [hB s hs t (by omega)] at hbit
    by_cases c : useW w s t = true
    · rw [if_pos (hbit.mpr c), hN s hs, hN t ht]
      refine ⟨ni_in (by omega) ht, ni_in (by omega) hs, ?_⟩
      by_cases c2 : v t ≤ v s
      · rw [if_pos ((ni_le (by omega) (by omega)).mpr c2)]
        have e : lyS w s t v = v := by
          funext a
          unfold lyS
          rw [if_neg (by omega)]
        exact kk I (by rw [e]; exact hN) (by rw [e]; exact hv) (fun _ _ _ => rfl) _
      · rw [if_neg (fun z => c2 ((ni_le (by omega) (by omega)).mp z))]
        have e : ∀ a, lyS w s t v a = if a = s then v t else v a := by
          intro a
          unfold lyS
          by_cases d : a = s
          · rw [if_pos ⟨d, c, by omega⟩, if_pos d]
          · rw [if_neg (fun z => d z.1), if_neg d]
        exact ⟨ni_in (by omega) ht, ni_in (by omega) hs, kk _ (nset I v _ s (v t) hN e) (fun a => by rw [e a]; split; exact vt; exact hv a) (fun o k h => am_u_nq (by omega)) _⟩
    · rw [if_neg (fun z => c (hbit.mp z))]
      have e : lyS w s t v = v := by
        funext a
        unfold lyS
        rw [if_neg (fun z => c z.2.1)]
      exact kk I (by rw [e]; exact hN) (by rw [e]; exact hv) (fun _ _ _ => rfl) _
  have ROW : ∀ (m : Nat) (I : am_I) (v : Nat → Nat) (s t M : Nat) (x2 : Int32) (l5 : Option Value), 8 - t = m → t ≤ 8 → s < 8 → M ≤ 600 → (∀ a, lyRow w t s v a ≤ M) → btR I 169 (useW w) → nmR I 171 (lyRow w t s v) → (∀ (I' : am_I) (l4 l5 : Option Value), nmR I' 171 (lyRow w 8 s v) → (∀ a, lyRow w 8 s v a ≤ M) → (∀ o k, o ≠ 171 → I' o k = I o k) → am_go none d0 231 (172, [some (.ref 163), some (.ref x), some (.int x2), some (.int (ni (s + 1))), l4, l5], [], (am_SH, I', J, Pf), 0, 0) P) → am_go none d0 231 (181, [some (.ref 163), some (.ref x), some (.int x2), some (.int (ni s)), some (.int (ni t)), l5], [], (am_SH, I, J, Pf), 0, 0) P := by
    intro m
    induction m with
    | zero =>
      intro I v s t M x2 l5 hm ht hs hM hv hB hN kk
      have : t = 8 := by omega
      subst this
      refine v231_181 hp hx ?_
      rw [if_pos (by decide), ni_p1]
      exact kk I _ _ hN hv (fun _ _ _ => rfl)
    | succ m ih =>
      intro I v s t M x2 l5 hm ht hs hM hv hB hN kk
      exact ST I _ s t M x2 hM hv hs (by omega) hB hN (fun I' f1 f0 f2 l5 => ih I' v s (t + 1) M x2 l5 (by omega) (by omega) hs hM f0 (fun a ha u hu => by rw [f2 _ _ (by omega)]; exact hB a ha u hu) f1 (fun I'' l4 l5 g1 g0 g2 => kk I'' l4 l5 g1 g0 (fun o k e => (g2 o k e).trans (f2 o k e)))) l5
  have ALL : ∀ (m : Nat) (I : am_I) (v : Nat → Nat) (s M : Nat) (x2 : Int32) (l4 l5 : Option Value), 8 - s = m → s ≤ 8 → M ≤ 600 → (∀ a, lyAll w s v a ≤ M) → btR I 169 (useW w) → nmR I 171 (lyAll w s v) → (∀ (I' : am_I) (l4 l5 : Option Value), nmR I' 171 (lyAll w 8 v) → (∀ a, lyAll w 8 v a ≤ M) → (∀ o k, o ≠ 171 → I' o k = I o k) → am_go none d0 231 (246, [some (.ref 163), some (.ref x), some (.int x2), some (.int 0), l4, l5], [], (am_SH, I', J, Pf), 0, 0) P) → am_go none d0 231 (172, [some (.ref 163), some (.ref x), some (.int x2), some (.int (ni s)), l4, l5], [], (am_SH, I, J, Pf), 0, 0) P := by
    intro m
    induction m with
    | zero =>
      intro I v s M x2 l4 l5 hm hs hM hv hB hN kk
      have : s = 8 := by omega
      subst this
      refine v231_172 hp hx ?_
      rw [if_pos (by decide)]
      exact kk I _ _ hN hv (fun _ _ _ => rfl)
    | succ m ih =>
      intro I v s M x2 l4 l5 hm hs hM hv hB hN kk
      refine v231_172 hp hx ?_
      rw [if_neg (fun z => absurd ((gle 8 (by omega) (by omega)).mp z) (by omega)), ni_0]
      exact ROW 8 I _ s 0 M x2 _ rfl (by omega) (by omega) hM hv hB hN (fun I' l4 l5 f1 f0 f2 => ih I' v (s + 1) M x2 l4 l5 (by omega) (by omega) hM f0 (fun a ha u hu => by rw [f2 _ _ (by omega)]; exact hB a ha u hu) f1 (fun I'' l4 l5 g1 g0 g2 => kk I'' l4 l5 g1 g0 (fun o k e => (g2 o k e).trans (f2 o k e))))
  have DR : ∀ (m : Nat) (I : am_I) (v : Nat → Nat) (d j M : Nat) (l4 l5 : Option Value), wN w 4 - d = m → d ≤ wN w 4 → M ≤ 600 → I x = w → (∀ a, lyDrs w d v a ≤ M + d) → nmR I 171 (lyDrs w d v) → (∀ (I' : am_I) (l3 l4 l5 : Option Value), nmR I' 171 (lyDrs w (wN w 4) v) → (∀ a, lyDrs w (wN w 4) v a ≤ M + wN w 4) → (∀ o k, o ≠ 171 → I' o k = I o k) → am_go none d0 231 (164, [some (.ref 163), some (.ref x), some (.int (ni (j + 1))), l3, l4, l5], [], (am_SH, I', J, Pf), 0, 0) P) → am_go none d0 231 (246, [some (.ref 163), some (.ref x), some (.int (ni j)), some (.int (ni d)), l4, l5], [], (am_SH, I, J, Pf), 0, 0) P := by
    intro m
    induction m with
    | zero =>
      intro I v d j M l4 l5 hm hd hM hw hv hN kk
      have : d = wN w 4 := by omega
      subst this
      refine v231_246 hp hx ⟨by decide, ?_⟩
      rw [hw, show w (Int32.toNatClampNeg 4) = ni (wN w 4) from w4, if_pos ((ni_le (by omega) (by omega)).mpr (by omega)), ni_p1]
      exact kk I _ _ _ hN hv (fun _ _ _ => rfl)
    | succ m ih =>
      intro I v d j M l4 l5 hm hd hM hw hv hN kk
      obtain ⟨g1, g2, g3, g4, g5⟩ := hG.dr (d := d) (by omega)
      refine v231_246 hp hx ⟨by decide, ?_⟩
      have vs := hv (wN w (1008 + 4 * d))
      have vt := hv (wN w (1008 + 4 * d + 1))
      rw [hw, show w (Int32.toNatClampNeg 4) = ni (wN w 4) from w4, if_neg (fun z => absurd ((ni_le (by omega) (by omega)).mp z) (by omega)), i4, ni_p1, show (ni (1008 + 4 * d)).toNatClampNeg = 1008 + 4 * d from ni_nat (by omega), show (ni (1008 + 4 * d + 1)).toNatClampNeg = 1008 + 4 * d + 1 from ni_nat (by omega), g2, g4, show (ni (wN w (1008 + 4 * d))).toNatClampNeg = wN w (1008 + 4 * d) from ni_nat (by omega), show (ni (wN w (1008 + 4 * d + 1))).toNatClampNeg = wN w (1008 + 4 * d + 1) from ni_nat (by omega), hN _ g1, hN _ g3, ni_p1, ni_p1]
      refine ⟨ni_in (by omega) (by omega), ni_in (by omega) (by omega), ni_in (by omega) g3, ni_in (by omega) g1, ?_⟩
      have e9 : lyDrs w (d + 1) v = lyDr w d (lyDrs w d v) := rfl
      by_cases c : lyDrs w d v (wN w (1008 + 4 * d + 1)) < lyDrs w d v (wN w (1008 + 4 * d))
      · rw [if_pos ((ni_lt (by omega) (by omega)).mpr c)]
        have e : lyDrs w (d + 1) v = lyDrs w d v := by
          rw [e9]
          funext a
          unfold lyDr
          rw [if_neg (by omega)]
        exact ih I v (d + 1) j M _ _ (by omega) (by omega) hM hw (by rw [e]; intro a; have := hv a; omega) (by rw [e]; exact hN) kk
      · rw [if_neg (fun z => c ((ni_lt (by omega) (by omega)).mp z))]
        have e : ∀ a, lyDrs w (d + 1) v a = if a = wN w (1008 + 4 * d) then lyDrs w d v (wN w (1008 + 4 * d + 1)) + 1 else lyDrs w d v a := by
          intro a
          rw [e9]
          unfold lyDr
          by_cases z : a = wN w (1008 + 4 * d)
          · rw [if_pos ⟨z, by omega⟩, if_pos z]
          · rw [if_neg (fun y => z y.1), if_neg z]
        refine ⟨ni_in (by omega) g3, ni_in (by omega) g1, ih _ v (d + 1) j M _ _ (by omega) (by omega) hM ((am_u_o hx71).trans hw) (fun a => ?_) (nset I _ _ _ _ hN e) (fun I' l3 l4 l5 f1 f0 f2 => kk I' l3 l4 l5 f1 f0 (fun o k e => (f2 o k e).trans (am_u_nq (by omega))))⟩
        rw [e a]
        have := hv a
        split <;> omega
  intro m
  induction m with
  | zero =>
    intro I j l3 l4 l5 hm hj hw hB hN hv kk
    have : j = 64 := by omega
    subst this
    refine v231_164 hp hx ?_
    rw [if_pos (by decide)]
    exact kk I hN hv (fun _ _ _ => rfl)
  | succ m ih =>
    intro I j l3 l4 l5 hm hj hw hB hN hv kk
    refine v231_164 hp hx ?_
    rw [if_neg (fun z => absurd ((gle 64 (by omega) (by omega)).mp z) (by omega)), ni_0]
    refine ALL 8 I (lyW w j) 0 (8 * j) _ _ _ rfl (by omega) (by omega) hv hB hN (fun I' l4 l5 f1 f0 f2 => ?_)
    rw [ni_0]
    refine DR _ I' (lyAll w 8 (lyW w j)) 0 j (8 * j) _ _ rfl (Nat.zero_le _) (by omega) (by rw [← hw]; funext k; exact f2 _ _ hx71) f0 f1 (fun I'' l3 l4 l5 g1 g0 g2 => ?_)
    have hfr : ∀ o k, o ≠ 171 → I'' o k = I o k := fun o k e => (g2 o k e).trans (f2 o k e)
    refine ih I'' (j + 1) l3 l4 l5 (by omega) (by omega) (by rw [← hw]; funext k; exact hfr _ _ hx71) (fun a ha u hu => by rw [hfr _ _ (by omega)]; exact hB a ha u hu) g1 (fun s => ?_) (fun I3 e1 e0 e2 => kk I3 e1 e0 (fun o k e => (e2 o k e).trans (hfr o k e)))
    have := g0 s
    show lyDrs w (wN w 4) (lyAll w 8 (lyW w j)) s ≤ 8 * (j + 1)
    omega
end RS2
