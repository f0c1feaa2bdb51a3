/-! The class: layers; drops that are not sound -/
def lcD (w : Nat → Int32) (s t : Nat) (v : Nat → Nat) : Nat → Nat := fun a => if a = s ∧ drpW w s t = true ∧ v s < v t + 1 then v t + 1 else v a
def lcS (w : Nat → Int32) (s t : Nat) (v : Nat → Nat) : Nat → Nat := lcD w s t (lyS w s t v)
def lcRow (w : Nat → Int32) (m s : Nat) (v : Nat → Nat) : Nat → Nat := foldN m (fun t v => lcS w s t v) v
def lcAll (w : Nat → Int32) (m : Nat) (v : Nat → Nat) : Nat → Nat := foldN m (fun s v => lcRow w 8 s v) v
def lcW (w : Nat → Int32) (j : Nat) : Nat → Nat := foldN j (fun _ v => lcAll w 8 v) (fun _ => 0)
theorem lyS_p {w : Nat → Int32} (s t : Nat) (y : Nat → Nat) : (∀ a, y a ≤ lyS w s t y a) ∧ (useW w s t = true → y t ≤ lyS w s t y s) := by
  refine ⟨fun a => ?_, fun hU => ?_⟩
  · unfold lyS
    split
    · rename_i c; rw [c.1]; omega
    · exact Nat.le_refl _
  · unfold lyS
    by_cases c : y s < y t
    · rw [if_pos ⟨rfl, hU, c⟩]
      exact Nat.le_refl _
    · rw [if_neg (fun z => c z.2.2)]; omega
theorem lcD_p {w : Nat → Int32} (s t : Nat) (y : Nat → Nat) : (∀ a, y a ≤ lcD w s t y a) ∧ (drpW w s t = true → y t + 1 ≤ lcD w s t y s) := by
  refine ⟨fun a => ?_, fun hU => ?_⟩
  · unfold lcD
    split
    · rename_i c; rw [c.1]; omega
    · exact Nat.le_refl _
  · unfold lcD
    by_cases c : y s < y t + 1
    · rw [if_pos ⟨rfl, hU, c⟩]
      exact Nat.le_refl _
    · rw [if_neg (fun z => c z.2.2)]; omega
theorem lcS_p {w : Nat → Int32} (s t : Nat) (y : Nat → Nat) : (∀ a, y a ≤ lcS w s t y a) ∧ (useW w s t = true → y t ≤ lcS w s t y s) ∧ (drpW w s t = true → y t + 1 ≤ lcS w s t y s) := by
  have h1 := lyS_p (w := w) s t y
  have h2 := lcD_p (w := w) s t (lyS w s t y)
  refine ⟨fun a => Nat.le_trans (h1.1 a) (h2.1 a), fun hU => Nat.le_trans (h1.2 hU) (h2.1 s), fun hD => ?_⟩
  have h3 := h2.2 hD
  have h4 := h1.1 t
  show y t + 1 ≤ lcD w s t (lyS w s t y) s
  omega
theorem lcRow_p {w : Nat → Int32} (m s : Nat) (v : Nat → Nat) : (∀ a, v a ≤ lcRow w m s v a) ∧ (∀ t, t < m → (useW w s t = true → v t ≤ lcRow w m s v s) ∧ (drpW w s t = true → v t + 1 ≤ lcRow w m s v s)) := by
  refine foldN_ind (Q := fun (k : Nat) (z : Nat → Nat) => (∀ a, v a ≤ z a) ∧ (∀ t, t < k → (useW w s t = true → v t ≤ z s) ∧ (drpW w s t = true → v t + 1 ≤ z s))) ⟨fun _ => Nat.le_refl _, fun t ht => absurd ht (by omega)⟩ (fun k z hk hz => ?_)
  have h := lcS_p (w := w) s k z
  refine ⟨fun a => Nat.le_trans (hz.1 a) (h.1 a), fun t ht => ?_⟩
  by_cases c : t = k
  · subst c
    have h3 := hz.1 t
    exact ⟨fun hU => Nat.le_trans h3 (h.2.1 hU), fun hD => by have := h.2.2 hD; omega⟩
  · have h4 := h.1 s
    exact ⟨fun hU => Nat.le_trans ((hz.2 t (by omega)).1 hU) h4, fun hD => Nat.le_trans ((hz.2 t (by omega)).2 hD) h4⟩
theorem lcAll_p {w : Nat → Int32} (m : Nat) (v : Nat → Nat) : (∀ a, v a ≤ lcAll w m v a) ∧ (∀ s t, s < m → t < 8 → (useW w s t = true → v t ≤ lcAll w m v s) ∧ (drpW w s t = true → v t + 1 ≤ lcAll w m v s)) := by
  refine foldN_ind (Q := fun (k : Nat) (z : Nat → Nat) => (∀ a, v a ≤ z a) ∧ (∀ s t, s < k → t < 8 → (useW w s t = true → v t ≤ z s) ∧ (drpW w s t = true → v t + 1 ≤ z s))) ⟨fun _ => Nat.le_refl _, fun s t ht => absurd ht (by omega)⟩ (fun k z hk hz => ?_)
  have h := lcRow_p (w := w) 8 k z
  refine ⟨fun a => Nat.le_trans (hz.1 a) (h.1 a), fun s t hs ht => ?_⟩
  by_cases c : s = k
  · subst c
    have h3 := hz.1 t
    exact ⟨fun hU => Nat.le_trans h3 ((h.2 t ht).1 hU), fun hD => by have := (h.2 t ht).2 hD; omega⟩
  · have h4 := h.1 s
    exact ⟨fun hU => Nat.le_trans ((hz.2 s t (by omega) ht).1 hU) h4, fun hD => Nat.le_trans ((hz.2 s t (by omega) ht).2 hD) h4⟩
/-- below a solution -/
def lyBe (y v : Nat → Nat) : Prop := ∀ s, s < 8 → v s ≤ y s
theorem lyBe.U {w : Nat → Int32} {y v : Nat → Nat} (hy : lySol (fun s t => useW w s t = true) (fun s t => drpW w s t = true) y) {s t : Nat} (ht : t < 8) (h : lyBe y v) : lyBe y (lyS w s t v) := by
  intro a ha
  unfold lyS
  split
  · rename_i c
    obtain ⟨rfl, c1, c2⟩ := c
    exact Nat.le_trans (h t ht) ((hy a t ha ht).1 c1)
  · exact h a ha
theorem lyBe.D {w : Nat → Int32} {y v : Nat → Nat} (hy : lySol (fun s t => useW w s t = true) (fun s t => drpW w s t = true) y) {s t : Nat} (ht : t < 8) (h : lyBe y v) : lyBe y (lcD w s t v) := by
  intro a ha
  unfold lcD
  split
  · rename_i c
    obtain ⟨rfl, c1, c2⟩ := c
    have h1 := h t ht
    have h2 := (hy a t ha ht).2 c1
    omega
  · exact h a ha
theorem lyBe.row {w : Nat → Int32} {y v : Nat → Nat} (hy : lySol (fun s t => useW w s t = true) (fun s t => drpW w s t = true) y) {m s : Nat} (hm : m ≤ 8) (h : lyBe y v) : lyBe y (lcRow w m s v) := foldN_ind (Q := fun _ z => lyBe y z) h (fun _ _ hk hz => (hz.U hy (by omega)).D hy (by omega))
theorem lyBe.all {w : Nat → Int32} {y v : Nat → Nat} (hy : lySol (fun s t => useW w s t = true) (fun s t => drpW w s t = true) y) {m : Nat} (h : lyBe y v) : lyBe y (lcAll w m v) := foldN_ind (Q := fun _ z => lyBe y z) h (fun _ _ _ hz => hz.row hy (Nat.le_refl _))
theorem lcW_seq {w : Nat → Int32} : lySeq (fun s t => useW w s t = true) (fun s t => drpW w s t = true) (fun j => lcW w j) := by
  refine ⟨fun _ _ => rfl, fun j s _ => (lcAll_p 8 (lcW w j)).1 s, fun j y hy => ?_, fun j s t hs ht => (lcAll_p 8 (lcW w j)).2 s t hs ht⟩
  exact foldN_ind (Q := fun _ (z : Nat → Nat) => lyBe y z) (fun _ _ => Nat.zero_le _) (fun _ _ _ hz => hz.all hy)
/-- both ways to the layers are one -/
theorem lc_ly {w : Nat → Int32} (hG : WG w) (hs : sndW w) : ∀ s, s < 8 → lcW w 8 s = lyW w 64 s := ly_8 lcW_seq (lyW_least hG hs).1 (lyW_least hG hs).2.1
/-- the greatest layer -/
def mxL (v : Nat → Nat) (m : Nat) : Nat := foldN m (fun s y => if y < v s then v s else y) 0
section CS2
variable {d0 : Nat} {P : am_O → Prop} {J : am_J} {Pf : am_R} {w : Nat → Int32} {r : Nat}
theorem nmR_set {I : am_I} {o s y : Nat} {v v' : Nat → Nat} (h : nmR I o v) (e : ∀ a, v' a = if a = s then y else v a) : nmR (am_u I o s (ni y)) o v' := by
  intro a ha
  rw [e a]
  by_cases c : a = s
  · subst c; rw [am_u_same, if_pos rfl]
  · rw [am_u_nq (by omega), if_neg c]; exact h a ha
theorem nmR.o {I I' : am_I} {o : Nat} {v : Nat → Nat} (h : nmR I o v) (e : ∀ k, I' o k = I o k) : nmR I' o v := fun a ha => by rw [e]; exact h a ha
theorem sc_layers (hp : am_PF Pf) (hr : r = 16 ∨ r = 55) (hG : WG w) (hs : sndW w) {I : am_I} (hU : btR I (r + 16) (useW w)) (hD : btR I (r + 17) (drpW w))
    (kk : ∀ I', nmR I' (r + 19) (lyW w 64) → I' (r + 15) 4 = ni (mxL (lyW w 64) 8) → (∀ o k, o ≠ r + 19 → ¬ (o = r + 15 ∧ k = 4) → I' o k = I o k) → P (.inl none, (am_SH, I', J, Pf), 0, 0)) : am_mth (d0 + 2) 93 [.ref (r + 15)] (am_SH, I, J, Pf) P := by
  obtain ⟨s15, s16, s17, s18, s19⟩ := srt_sh hr
  obtain ⟨ysol, -, y7⟩ := lyW_least hG hs
  -- one step
  have ST : ∀ (I1 : am_I) (v : Nat → Nat) (j s t : Nat), s < 8 → t < 8 → lyBe (lyW w 64) v → nmR I1 (r + 19) v → btR I1 (r + 16) (useW w) → btR I1 (r + 17) (drpW w) → (∀ I', nmR I' (r + 19) (lcS w s t v) → (∀ o k, o ≠ r + 19 → I' o k = I1 o k) → am_go none (d0 + 1) 93 (26, [some (.ref (r + 15)), some (.int (ni j)), some (.int (ni s)), some (.int (ni (t + 1)))], [], (am_SH, I', J, Pf), 0, 0) P) → am_go none (d0 + 1) 93 (26, [some (.ref (r + 15)), some (.int (ni j)), some (.int (ni s)), some (.int (ni t))], [], (am_SH, I1, J, Pf), 0, 0) P := by
    intro I1 v j s t h1 h2 hb hN hU hD kk
    have e1 : (ni s).toNatClampNeg = s := ni_nat (by omega)
    have e2 : (ni t).toNatClampNeg = t := ni_nat (by omega)
    have vs := hb s h1
    have vt := hb t h2
    have ls := y7 s h1
    have lt := y7 t h2
    -- the drop's half
    have DH : ∀ (I2 : am_I) (v2 : Nat → Nat), lyBe (lyW w 64) v2 → nmR I2 (r + 19) v2 → btR I2 (r + 17) (drpW w) → (∀ o k, o ≠ r + 19 → I2 o k = I1 o k) → lyS w s t v = v2 → am_go none (d0 + 1) 93 (66, [some (.ref (r + 15)), some (.int (ni j)), some (.int (ni s)), some (.int (ni t))], [], (am_SH, I2, J, Pf), 0, 0) P := by
      intro I2 v2 hb2 hN2 hD2 hf ev
      have vs := hb2 s h1
      have vt := hb2 t h2
      refine v93_66 hp s15 ?_
      rw [e1, e2, ni_p1, show r + 15 + 2 = r + 17 from rfl, show r + 15 + 4 = r + 19 from rfl]
      have hbit := bI_us (v := I2 (r + 17) s) (j := t) (by omega)
      rw [hD2 s h1 t (by omega)] at hbit
      refine ⟨ni_in (by omega) h1, ?_⟩
      by_cases c : drpW w s t = true
      · rw [if_neg (fun z => hbit.mp z c), hN2 s h1, hN2 t h2, ni_p1]
        refine ⟨ni_in (by omega) h1, ni_in (by omega) h2, ?_⟩
        by_cases c2 : v2 s < v2 t + 1
        · rw [if_pos ((ni_lt (by omega) (by omega)).mpr c2)]
          refine ⟨ni_in (by omega) h1, kk _ (nmR_set hN2 (fun a => ?_)) (fun o k e => (am_u_nq (by omega)).trans (hf o k e))⟩
          unfold lcS lcD
          rw [ev]
          by_cases c3 : a = s
          · rw [if_pos ⟨c3, c, c2⟩, if_pos c3]
          · rw [if_neg (fun z => c3 z.1), if_neg c3]
        · rw [if_neg (fun z => c2 ((ni_lt (by omega) (by omega)).mp z))]
          refine ⟨ni_in (by omega) h1, kk _ (nmR_set hN2 (fun a => ?_)) (fun o k e => (am_u_nq (by omega)).trans (hf o k e))⟩
          unfold lcS lcD
          rw [ev, if_neg (fun z => c2 z.2.2)]
          by_cases c3 : a = s
          · rw [if_pos c3, c3]
          · rw [if_neg c3]
      · rw [if_pos (hbit.mpr c)]
        refine kk I2 ?_ hf
        have : lcS w s t v = v2 := by
          unfold lcS lcD
          rw [ev]
          funext a
          rw [if_neg (fun z => c z.2.1)]
        rw [this]; exact hN2
    refine v93_26 hp s15 ?_
    rw [if_neg (fun z => absurd ((gle 8 (by omega) (by omega)).mp z) (by omega)), e1, e2, show r + 15 + 1 = r + 16 from rfl, show r + 15 + 4 = r + 19 from rfl]
    have hbit := bI_us (v := I1 (r + 16) s) (j := t) (by omega)
    rw [hU s h1 t (by omega)] at hbit
    refine ⟨ni_in (by omega) h1, ?_⟩
    have hb2 := hb.U (s := s) ysol h2
    by_cases c : useW w s t = true
    · rw [if_neg (fun z => hbit.mp z c), hN s h1, hN t h2]
      refine ⟨ni_in (by omega) h1, ni_in (by omega) h2, ?_⟩
      by_cases c2 : v s < v t
      · rw [if_pos ((ni_lt (by omega) (by omega)).mpr c2)]
        refine ⟨ni_in (by omega) h1, DH _ _ hb2 (nmR_set hN (fun a => ?_)) (hD.o (fun k => am_u_nq (by omega))) (fun o k e => am_u_nq (by omega)) rfl⟩
        unfold lyS
        by_cases c3 : a = s
        · rw [if_pos ⟨c3, c, c2⟩, if_pos c3]
        · rw [if_neg (fun z => c3 z.1), if_neg c3]
      · rw [if_neg (fun z => c2 ((ni_lt (by omega) (by omega)).mp z))]
        refine ⟨ni_in (by omega) h1, DH _ _ hb2 (nmR_set hN (fun a => ?_)) (hD.o (fun k => am_u_nq (by omega))) (fun o k e => am_u_nq (by omega)) rfl⟩
        unfold lyS
        rw [if_neg (fun z => c2 z.2.2)]
        by_cases c3 : a = s
        · rw [if_pos c3, c3]
        · rw [if_neg c3]
    · rw [if_pos (hbit.mpr c)]
      refine DH I1 v hb hN hD (fun _ _ _ => rfl) ?_
      unfold lyS
      funext a
      rw [if_neg (fun z => c z.2.1)]
  have ROW : ∀ (m : Nat) (I1 : am_I) (v : Nat → Nat) (j s t : Nat), 8 - t = m → t ≤ 8 → s < 8 → lyBe (lyW w 64) v → nmR I1 (r + 19) (lcRow w t s v) → btR I1 (r + 16) (useW w) → btR I1 (r + 17) (drpW w) → (∀ (I' : am_I) (l3 : Option Value), nmR I' (r + 19) (lcRow w 8 s v) → (∀ o k, o ≠ r + 19 → I' o k = I1 o k) → am_go none (d0 + 1) 93 (18, [some (.ref (r + 15)), some (.int (ni j)), some (.int (ni (s + 1))), l3], [], (am_SH, I', J, Pf), 0, 0) P) → am_go none (d0 + 1) 93 (26, [some (.ref (r + 15)), some (.int (ni j)), some (.int (ni s)), some (.int (ni t))], [], (am_SH, I1, J, Pf), 0, 0) P := by
    intro m
    induction m with
    | zero =>
      intro I1 v j s t hm ht hs hb hN hU hD kk
      have : t = 8 := by omega
      subst this
      refine v93_26 hp s15 ?_
      rw [if_pos (by decide), ni_p1]
      exact kk I1 _ hN (fun _ _ _ => rfl)
    | succ m ih =>
      intro I1 v j s t hm ht hs hb hN hU hD kk
      exact ST I1 _ j s t hs (by omega) (hb.row ysol (by omega)) hN hU hD (fun I' f1 f2 => ih I' v j s (t + 1) (by omega) (by omega) hs hb f1 (hU.o (fun k => f2 _ _ (by omega))) (hD.o (fun k => f2 _ _ (by omega))) (fun I'' l3 g1 g2 => kk I'' l3 g1 (fun o k e => (g2 o k e).trans (f2 o k e))))
  have ALL : ∀ (m : Nat) (I1 : am_I) (v : Nat → Nat) (j s : Nat) (l3 : Option Value), 8 - s = m → s ≤ 8 → lyBe (lyW w 64) v → nmR I1 (r + 19) (lcAll w s v) → btR I1 (r + 16) (useW w) → btR I1 (r + 17) (drpW w) → (∀ (I' : am_I) (l2 l3 : Option Value), nmR I' (r + 19) (lcAll w 8 v) → (∀ o k, o ≠ r + 19 → I' o k = I1 o k) → am_go none (d0 + 1) 93 (10, [some (.ref (r + 15)), some (.int (ni (j + 1))), l2, l3], [], (am_SH, I', J, Pf), 0, 0) P) → am_go none (d0 + 1) 93 (18, [some (.ref (r + 15)), some (.int (ni j)), some (.int (ni s)), l3], [], (am_SH, I1, J, Pf), 0, 0) P := by
    intro m
    induction m with
    | zero =>
      intro I1 v j s l3 hm hs hb hN hU hD kk
      have : s = 8 := by omega
      subst this
      refine v93_18 hp s15 ?_
      rw [if_pos (by decide), ni_p1]
      exact kk I1 _ _ hN (fun _ _ _ => rfl)
    | succ m ih =>
      intro I1 v j s l3 hm hs hb hN hU hD kk
      refine v93_18 hp s15 ?_
      rw [if_neg (fun z => absurd ((gle 8 (by omega) (by omega)).mp z) (by omega)), show (0 : Int32) = ni 0 from rfl]
      exact ROW 8 I1 _ j s 0 rfl (by omega) (by omega) (hb.all ysol) hN hU hD (fun I' l3 f1 f2 => ih I' v j (s + 1) l3 (by omega) (by omega) hb f1 (hU.o (fun k => f2 _ _ (by omega))) (hD.o (fun k => f2 _ _ (by omega))) (fun I'' l2 l3 g1 g2 => kk I'' l2 l3 g1 (fun o k e => (g2 o k e).trans (f2 o k e))))
  have hbW : ∀ j, lyBe (lyW w 64) (lcW w j) := fun j => lcW_seq.2.2.1 j _ ysol
  have TRN : ∀ (m : Nat) (I1 : am_I) (j : Nat) (l2 l3 : Option Value), 8 - j = m → j ≤ 8 → nmR I1 (r + 19) (lcW w j) → btR I1 (r + 16) (useW w) → btR I1 (r + 17) (drpW w) → (∀ (I' : am_I) (l2 l3 : Option Value), nmR I' (r + 19) (lyW w 64) → (∀ o k, o ≠ r + 19 → I' o k = I1 o k) → am_go none (d0 + 1) 93 (127, [some (.ref (r + 15)), some (.int (ni 0)), l2, l3], [], (am_SH, am_u I' (r + 15) 4 (ni 0), J, Pf), 0, 0) P) → am_go none (d0 + 1) 93 (10, [some (.ref (r + 15)), some (.int (ni j)), l2, l3], [], (am_SH, I1, J, Pf), 0, 0) P := by
    intro m
    induction m with
    | zero =>
      intro I1 j l2 l3 hm hj hN hU hD kk
      have : j = 8 := by omega
      subst this
      refine v93_10 hp s15 ?_
      rw [if_pos (by decide), show (0 : Int32) = ni 0 from rfl]
      exact kk I1 _ _ (fun a ha => by rw [← lc_ly hG hs a ha]; exact hN a ha) (fun _ _ _ => rfl)
    | succ m ih =>
      intro I1 j l2 l3 hm hj hN hU hD kk
      refine v93_10 hp s15 ?_
      rw [if_neg (fun z => absurd ((gle 8 (by omega) (by omega)).mp z) (by omega)), show (0 : Int32) = ni 0 from rfl]
      exact ALL 8 I1 (lcW w j) j 0 _ rfl (by omega) (hbW j) hN hU hD (fun I' l2 l3 f1 f2 => ih I' (j + 1) l2 l3 (by omega) (by omega) f1 (hU.o (fun k => f2 _ _ (by omega))) (hD.o (fun k => f2 _ _ (by omega))) (fun I'' l2 l3 g1 g2 => kk I'' l2 l3 g1 (fun o k e => (g2 o k e).trans (f2 o k e))))
  have mx7 : ∀ m, m ≤ 8 → mxL (lyW w 64) m ≤ 7 := fun m hm => foldN_ind (Q := fun _ (y : Nat) => y ≤ 7) (Nat.zero_le _) (fun k y hk hy => by
    show (if y < lyW w 64 k then lyW w 64 k else y) ≤ 7
    split
    · exact y7 k (by omega)
    · exact hy)
  have MX : ∀ (m : Nat) (I1 : am_I) (s : Nat) (l2 l3 : Option Value), 8 - s = m → s ≤ 8 → nmR I1 (r + 19) (lyW w 64) → I1 (r + 15) 4 = ni (mxL (lyW w 64) s) → (∀ (I' : am_I), I' (r + 15) 4 = ni (mxL (lyW w 64) 8) → (∀ o k, ¬ (o = r + 15 ∧ k = 4) → I' o k = I1 o k) → P (.inl none, (am_SH, I', J, Pf), 0, 0)) → am_go none (d0 + 1) 93 (127, [some (.ref (r + 15)), some (.int (ni s)), l2, l3], [], (am_SH, I1, J, Pf), 0, 0) P := by
    intro m
    induction m with
    | zero =>
      intro I1 s l2 l3 hm hs hN h4 kk
      have : s = 8 := by omega
      subst this
      refine v93_127 hp s15 ?_
      rw [if_pos (by decide)]
      exact kk I1 h4 (fun _ _ _ => rfl)
    | succ m ih =>
      intro I1 s l2 l3 hm hs hN h4 kk
      have h7 := mx7 s (by omega)
      have hl7 := y7 s (by omega)
      refine v93_127 hp s15 ?_
      rw [if_neg (fun z => absurd ((gle 8 (by omega) (by omega)).mp z) (by omega)), show (ni s).toNatClampNeg = s from ni_nat (by omega), show r + 15 + 4 = r + 19 from rfl, h4, hN s (by omega), ni_p1]
      refine ⟨ni_in (by omega) (by omega), ?_⟩
      have e9 : mxL (lyW w 64) (s + 1) = if mxL (lyW w 64) s < lyW w 64 s then lyW w 64 s else mxL (lyW w 64) s := rfl
      by_cases c : mxL (lyW w 64) s < lyW w 64 s
      · rw [if_pos ((ni_lt (by omega) (by omega)).mpr c)]
        exact ih _ (s + 1) _ _ (by omega) (by omega) (hN.o (fun k => am_u_nq (by omega))) (by rw [am_u_same, e9, if_pos c]) (fun I' f1 f2 => kk I' f1 (fun o k e => (f2 o k e).trans (am_u_nq (by omega))))
      · rw [if_neg (fun z => c ((ni_lt (by omega) (by omega)).mp z))]
        exact ih _ (s + 1) _ _ (by omega) (by omega) (hN.o (fun k => am_u_nq (by omega))) (by rw [am_u_same, e9, if_neg c]) (fun I' f1 f2 => kk I' f1 (fun o k e => (f2 o k e).trans (am_u_nq (by omega))))
  refine am_mth_of rfl rfl (v93_0 hp s15 ?_)
  refine sj_fill (d0 := d0) hp s19 (by omega) (fun I1 a1 a2 => am_back (v93_8 hp s15 ?_))
  rw [show (0 : Int32) = ni 0 from rfl]
  refine TRN 8 I1 0 _ _ rfl (by omega) (fun a ha => a1 a ha) (hU.o (fun k => a2 _ _ (by omega))) (hD.o (fun k => a2 _ _ (by omega))) (fun I2 l2 l3 b1 b2 => ?_)
  refine MX 8 _ 0 _ _ rfl (by omega) (b1.o (fun k => am_u_nq (by omega))) am_u_same (fun I3 c1 c2 => kk I3 (b1.o (fun k => ?_)) c1 (fun o k e1 e2 => ?_))
  · rw [c2 _ _ (by omega), am_u_nq (by omega)]
  · rw [c2 _ _ e2, am_u_nq (by omega), b2 _ _ e1, a2 _ _ (by omega)]
/-- the drops, the class -/
theorem sc_drops (hp : am_PF Pf) (h30 : Pf 3 0 = some 1) (h31 : Pf 3 1 = some r) (hr : r = 16 ∨ r = 55) (hG : WG w) {I : am_I} (hw : cG r I J w) (hx : cGxs I w) (hB : btR I (r + 18) (ndW w 8)) (h5 : I 1 5 = 0)
    (kk : match dF (badD w) (wN w 4) 0 with
      | none => P (.inl (some (.int 1)), (am_SH, I, J, Pf), 0, 0)
      | some d => ∀ I', I' 3 2 = w (1008 + 4 * d + 3) → I' 1 5 = 4 → I' 1 6 = w (1008 + 4 * d + 2) → (∀ o k, ¬ (o = 3 ∧ k = 2) → ¬ (o = 1 ∧ (k = 5 ∨ k = 6)) → I' o k = I o k) → P (.inl (some (.int 0)), (am_SH, I', J, Pf), 0, 0)) : am_mth (d0 + 2) 22 [.ref 3] (am_SH, I, J, Pf) P := by
  obtain ⟨⟨w0, w0'⟩, ⟨w1, w1'⟩, ⟨w2, w2'⟩, ⟨w3, w3'⟩, ⟨w4, w4'⟩, wk⟩ := id hG.1
  have hrs := rul_sh hr
  obtain ⟨⟨c0, c1, c2, c3, c4, c5⟩, -, -, -, -, hD⟩ := id hw
  have LP : ∀ (m d : Nat), wN w 4 - d = m → d ≤ wN w 4 → (match dF (badD w) m d with
      | none => P (.inl (some (.int 1)), (am_SH, I, J, Pf), 0, 0)
      | some d => ∀ I', I' 3 2 = w (1008 + 4 * d + 3) → I' 1 5 = 4 → I' 1 6 = w (1008 + 4 * d + 2) → (∀ o k, ¬ (o = 3 ∧ k = 2) → ¬ (o = 1 ∧ (k = 5 ∨ k = 6)) → I' o k = I o k) → P (.inl (some (.int 0)), (am_SH, I', J, Pf), 0, 0)) → am_go none (d0 + 1) 22 (2, [some (.ref 3), some (.int (ni d))], [], (am_SH, I, J, Pf), 0, 0) P := by
    intro m
    induction m with
    | zero =>
      intro d hm hd kk
      refine v22_2 hp ⟨r, h31, hrs, ?_⟩
      rw [c4, w4, if_pos ((ni_le (by omega) (by omega)).mpr (by omega))]
      exact kk
    | succ m ih =>
      intro d hm hd kk
      obtain ⟨g1, g2, g3, g4, g5⟩ := hG.dr (d := d) (by omega)
      obtain ⟨q1, q2⟩ := hD d (by omega)
      obtain ⟨x1, x2⟩ := hx d (by omega)
      refine v22_2 hp ⟨r, h31, hrs, ?_⟩
      rw [c4, w4, if_neg (fun z => absurd ((ni_le (by omega) (by omega)).mp z) (by omega)), show (ni d).toNatClampNeg = d from ni_nat (by omega), q1, q2, g2, g4, show (ni (wN w (1008 + 4 * d + 1))).toNatClampNeg = wN w (1008 + 4 * d + 1) from ni_nat (by omega), show r + 15 + 3 = r + 18 from rfl, ni_p1]
      refine ⟨ni_in (by omega) (by omega), ni_in (by omega) g3, ni_in (by omega) (by omega), ?_⟩
      have hbit := bI_us (v := I (r + 18) (wN w (1008 + 4 * d + 1))) (j := wN w (1008 + 4 * d)) (by omega)
      rw [hB _ g3 _ (by omega)] at hbit
      rw [dF_down] at kk
      by_cases c : badD w d = true
      · rw [if_neg (fun z => hbit.mp z c), if_pos h5]
        rw [if_pos c] at kk
        refine ⟨ni_in (by omega) (by omega), h30, ni_in (by omega) (by omega), kk _ ?_ ?_ ?_ (fun o k e1 e2 => ?_)⟩
        · rw [am_u_nq (by omega), am_u_nq (by omega), am_u_same]; exact x2
        · rw [am_u_nq (by omega), am_u_same]
        · rw [am_u_same]; exact x1
        · rw [am_u_nq (by omega), am_u_nq (by omega), am_u_nq (by omega)]
      · rw [if_pos (hbit.mpr c)]
        rw [if_neg c] at kk
        exact ih (d + 1) (by omega) (by omega) kk
  refine am_mth_of rfl rfl (v22_0 hp ?_)
  rw [show (0 : Int32) = ni 0 from rfl]
  exact LP (wN w 4) 0 rfl (Nat.zero_le _) kk
end CS2
