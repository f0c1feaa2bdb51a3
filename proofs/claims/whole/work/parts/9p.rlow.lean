/-! Heights that come down: what is kept, and that it ends -/
def sumN (f : Nat → Nat) : Nat → Nat
  | 0 => 0
  | n + 1 => sumN f n + f n
theorem sumN_congr {f g : Nat → Nat} : ∀ n, (∀ c, c < n → f c = g c) → sumN f n = sumN g n
  | 0, _ => rfl
  | n + 1, h => by
    show sumN f n + f n = sumN g n + g n
    rw [sumN_congr n (fun c hc => h c (by omega)), h n (by omega)]
theorem sumN_le {f g : Nat → Nat} : ∀ n, (∀ c, c < n → f c ≤ g c) → sumN f n ≤ sumN g n
  | 0, _ => Nat.le_refl _
  | n + 1, h => by
    have a := sumN_le n (fun c hc => h c (by omega))
    have b := h n (by omega)
    show sumN f n + f n ≤ sumN g n + g n
    omega
theorem sumN_one {f g : Nat → Nat} {x : Nat} : ∀ n, x < n → (∀ c, c < n → c ≠ x → f c = g c) → sumN f n + g x = sumN g n + f x
  | 0, h, _ => absurd h (by omega)
  | n + 1, h, e => by
    show sumN f n + f n + g x = sumN g n + g n + f x
    by_cases c : x = n
    · subst c
      rw [sumN_congr (f := f) (g := g) x (fun c hc => e c (by omega) (by omega))]
      omega
    · have := sumN_one (x := x) n (by omega) (fun c hc => e c (by omega))
      have := e n (by omega) (fun z => c z.symm)
      omega
def nzN (H : Nat → Nat) : Nat := sumN (fun c => if H c = 0 then 0 else 1) 5000
def muN (H : Nat → Nat) : Nat := sumN (fun c => if H c = 0 then 6000 else H c) 5000
def hSet (H : Nat → Nat) (c v : Nat) : Nat → Nat := fun x => if x = c then v else H x
theorem nzN_le (H : Nat → Nat) : nzN H ≤ 5000 := by
  have : ∀ n, sumN (fun c => if H c = 0 then 0 else 1) n ≤ n := by
    intro n
    induction n with
    | zero => exact Nat.le_refl _
    | succ n ih =>
      show sumN (fun c => if H c = 0 then 0 else 1) n + (if H n = 0 then 0 else 1) ≤ n + 1
      split <;> omega
  exact this 5000
/-- no height is lost, none rises -/
def hLe (H H' : Nat → Nat) : Prop := ∀ c, c < 5000 → 0 < H c → 0 < H' c ∧ H' c ≤ H c
theorem hLe.rfl' {H : Nat → Nat} : hLe H H := fun c _ h => ⟨h, Nat.le_refl _⟩
theorem hLe.trans {H H' H'' : Nat → Nat} (h : hLe H H') (g : hLe H' H'') : hLe H H'' := fun c hc z => by
  have a := h c hc z
  have b := g c hc a.1
  exact ⟨b.1, by omega⟩
theorem hLe.nz {H H' : Nat → Nat} (h : hLe H H') : nzN H ≤ nzN H' := by
  refine sumN_le _ (fun c hc => ?_)
  have := h c hc
  split
  · omega
  · rw [if_neg (by omega)]; exact Nat.le_refl _
theorem hLe.set {H : Nat → Nat} {c v : Nat} (h : ¬ (0 < H c ∧ H c ≤ v)) (hv : 0 < v) : hLe H (hSet H c v) := by
  intro x hx z
  unfold hSet
  split
  · rename_i e; subst e; omega
  · omega
theorem nz_set {H : Nat → Nat} {c v : Nat} (hc : c < 5000) (hv : 0 < v) : nzN (hSet H c v) = if H c = 0 then nzN H + 1 else nzN H := by
  have := sumN_one (f := fun x => if hSet H c v x = 0 then 0 else 1) (g := fun x => if H x = 0 then 0 else 1) (x := c) 5000 hc (fun x _ e => by
    unfold hSet; rw [if_neg e])
  rw [show hSet H c v c = v from if_pos rfl, if_neg (show ¬ v = 0 by omega)] at this
  unfold nzN
  split
  · rename_i e; rw [if_pos e] at this; omega
  · rename_i e; rw [if_neg e] at this; omega
theorem mu_set {H : Nat → Nat} {c v : Nat} (hc : c < 5000) (hv : 0 < v) (hv2 : v < 6000) (h : ¬ (0 < H c ∧ H c ≤ v)) : muN (hSet H c v) < muN H := by
  have := sumN_one (f := fun x => if hSet H c v x = 0 then 6000 else hSet H c v x) (g := fun x => if H x = 0 then 6000 else H x) (x := c) 5000 hc (fun x _ e => by
    unfold hSet; rw [if_neg e])
  rw [show hSet H c v c = v from if_pos rfl, if_neg (show ¬ v = 0 by omega)] at this
  unfold muN
  split at this
  · omega
  · omega
section HIV
variable (w : Nat → Int32) (T : TX) (Q : Nat → Nat → Nat → Prop) (Ht : Nat → Nat → Nat → Nat)
/-- heights found so far; those below a layer are right -/
def hIv (L : Nat) (H : Nat → Nat) : Prop := (∀ s i j, s < 8 → i ≤ j → j ≤ T.1 → lyW w 64 s < L → hC H s i j = Ht s i j) ∧ (∀ s i j, s < 8 → i < 25 → j < 25 → 0 < hC H s i j → i ≤ j ∧ j ≤ T.1 ∧ 0 < Ht s i j ∧ Ht s i j ≤ hC H s i j) ∧ hBd H (nzN H)
/-- nothing more comes to a sort -/
def hCl (H : Nat → Nat) (s : Nat) : Prop := ∀ i j h, i ≤ j → j ≤ T.1 → may w T (hC H) s i j → stp w T Q (lo (hC H) h) s i j → lo (hC H) (h + 1) s i j
end HIV
section HIW
variable {w : Nat → Int32} {T : TX} {Q : Nat → Nat → Nat → Prop} {Ht : Nat → Nat → Nat → Nat}
theorem hIv.zero {H : Nat → Nat} (hz : ∀ c, c < 5000 → H c = 0) : hIv w T Ht 0 H := by
  refine ⟨fun s i j h8 _ _ hl => absurd hl (by omega), fun s i j h8 hi hj z => ?_, fun c hc => ?_⟩
  · unfold hC at z; rw [hz _ (by omega)] at z; omega
  · rw [hz c hc]; exact Nat.zero_le _
theorem may_lt (hG : WG w) (hs : sndW w) {H H' : Nat → Nat → Nat → Nat} {s i j : Nat} (h8 : s < 8) (e : ∀ t, t < 8 → lyW w 64 t < lyW w 64 s → H t i j = H' t i j) (h : may w T H s i j) : may w T H' s i j := by
  obtain ⟨ly1, -, -⟩ := lyW_least hG hs
  refine ⟨h.1, fun t ht => ?_⟩
  have l2 := drp_lt hG ht
  have := (ly1 s t h8 l2.2).2 ht
  rw [← e t l2.2 (by omega)]
  exact h.2 t ht
theorem hIv.set (hG : WG w) (hs : sndW w) (hT : T.1 ≤ 24) (hS : Sol w T Q 0 Ht) {L : Nat} {H : Nat → Nat} (h : hIv w T Ht L H) {s i j v : Nat} (h8 : s < 8) (hl : lyW w 64 s = L) (hij : i ≤ j) (hj : j ≤ T.1) (hm : may w T (hC H) s i j) (hst : stp w T Q (lo (hC H) v) s i j) (hv : v + 1 ≤ nzN H + 1) (hn : ¬ (0 < hC H s i j ∧ hC H s i j ≤ v + 1)) : hIv w T Ht L (hSet H (625 * s + 25 * i + j) (v + 1)) ∧ muN (hSet H (625 * s + 25 * i + j) (v + 1)) < muN H ∧ hLe H (hSet H (625 * s + 25 * i + j) (v + 1)) := by
  obtain ⟨a1, a2, a3⟩ := h
  have hcell : 625 * s + 25 * i + j < 5000 := by omega
  have hnz := nzN_le H
  have eC : ∀ s' i' j', i' < 25 → j' < 25 → hC (hSet H (625 * s + 25 * i + j) (v + 1)) s' i' j' = if s' = s ∧ i' = i ∧ j' = j then v + 1 else hC H s' i' j' := by
    intro s' i' j' h1 h2
    unfold hC hSet
    by_cases c : s' = s ∧ i' = i ∧ j' = j
    · rw [if_pos c, if_pos (by omega)]
    · rw [if_neg c, if_neg (by omega)]
  refine ⟨⟨fun s' i' j' b1 b2 b3 b4 => ?_, fun s' i' j' b1 b2 b3 b4 => ?_, fun c hc => ?_⟩, mu_set hcell (by omega) (by omega) hn, hLe.set hn (by omega)⟩
  · rw [eC _ _ _ (by omega) (by omega), if_neg (fun z => by rw [z.1] at b4; omega)]
    exact a1 s' i' j' b1 b2 b3 b4
  · rw [eC _ _ _ b2 b3] at b4 ⊢
    by_cases c : s' = s ∧ i' = i ∧ j' = j
    · obtain ⟨rfl, rfl, rfl⟩ := c
      rw [if_pos ⟨rfl, rfl, rfl⟩]
      have := (hS s' i' j' h8 (Nat.zero_le _) hij hj v).mpr ⟨may_lt hG hs h8 (fun t ht hlt => a1 t i' j' ht hij hj (by omega)) hm, stp_tr hG txQ.rfl' (Nat.zero_le _) (by omega) (fun q _ z => z) (fun t ht _ b e c1 c2 c3 z => by
        have := a2 t b e ht (by omega) (by omega) z.1
        unfold lo at *
        omega) hst⟩
      unfold lo at this
      exact ⟨hij, hj, this.1, this.2⟩
    · rw [if_neg c] at b4 ⊢
      exact a2 s' i' j' b1 b2 b3 b4
  · have := a3 c hc
    rw [nz_set hcell (by omega)]
    show (if c = _ then v + 1 else H c) ≤ _
    unfold hC at hn
    have hx := a3 _ hcell
    split
    · split <;> omega
    · split <;> omega
theorem hIv.up (hG : WG w) (hs : sndW w) (hT : T.1 ≤ 24) (hS : Sol w T Q 0 Ht) {L : Nat} {H : Nat → Nat} (h : hIv w T Ht L H) (hc : ∀ s, s < 8 → lyW w 64 s = L → hCl w T Q H s) : hIv w T Ht (L + 1) H := by
  obtain ⟨a1, a2, a3⟩ := h
  obtain ⟨ly1, -, -⟩ := lyW_least hG hs
  refine ⟨?_, a2, a3⟩
  have key : ∀ k s i j, s < 8 → lyW w 64 s = L → i ≤ j → j ≤ T.1 → lo Ht k s i j → lo (hC H) k s i j := by
    intro k
    induction k with
    | zero => intro s i j _ _ _ _ z; unfold lo at z; omega
    | succ k ih =>
      intro s i j h8 hl hij hj z
      obtain ⟨z1, z2⟩ := (hS s i j h8 (Nat.zero_le _) hij hj k).mp z
      refine hc s h8 hl i j k hij hj (may_lt hG hs h8 (fun t ht hlt => (a1 t i j ht hij hj (by omega)).symm) z1) (stp_tr hG txQ.rfl' (Nat.zero_le _) (by omega) (fun q _ z => z) (fun t ht hu b e c1 c2 c3 y => ?_) z2)
      have := (ly1 s t h8 ht).1 hu
      by_cases c : lyW w 64 t = L
      · exact ih t b e ht c c2 c3 y
      · unfold lo at *
        rw [a1 t b e ht c2 c3 (by omega)]
        exact y
  intro s i j h8 hij hj hl
  by_cases c : lyW w 64 s = L
  · refine lo_eq (fun k => ⟨fun z => ?_, key k s i j h8 c hij hj⟩)
    have := a2 s i j h8 (by omega) (by omega) z.1
    unfold lo at *
    omega
  · exact a1 s i j h8 hij hj (by omega)
end HIW
section MAYB
variable {d0 : Nat} {P : am_O → Prop} {J : am_J} {Pf : am_R} {T : TX} {w : Nat → Int32}
theorem rHi.set {d : Nat} {I : am_I} {H : Nat → Nat} (h : rHi d I H) {c v : Nat} : rHi d (am_u I 184 (5000 * d + c) (ni v)) (hSet H c v) := by
  intro x hx
  unfold hSet
  by_cases e : x = c
  · subst e; rw [am_u_same, if_pos rfl]
  · rw [am_u_nq (by omega), if_neg e]; exact h x hx
theorem WG.no {w : Nat → Int32} (h : WG w) {j : Nat} (hj : j < wN w 3) : wN w (992 + 2 * j) < 8 ∧ w (992 + 2 * j) = ni (wN w (992 + 2 * j)) ∧ wN w (992 + 2 * j + 1) < wN w 0 ∧ w (992 + 2 * j + 1) = ni (wN w (992 + 2 * j + 1)) := by
  obtain ⟨s, k, h1, h2, h3, h4⟩ := h.2.2.2.1 j hj
  have h0 := h.1.1.2
  have e1 : wN w (992 + 2 * j) = s := by unfold wN; rw [h3, ni_nat (by omega)]
  have e2 : wN w (992 + 2 * j + 1) = k := by unfold wN; rw [h4, ni_nat (by omega)]
  rw [e1, e2]
  exact ⟨h1, h3, h2, h4⟩
theorem sr_may (hp : am_PF Pf) (hG : WG w) {d : Nat} (hd : d ≤ 3) {I : am_I} (hg : I 167 = w) (hT : rTd d I T) (hTo : txOK T) {H : Nat → Nat} {M : Nat} (hH : rHi d I H) (hM : hBd H M) (hM2 : M ≤ 100000) {s i j : Nat} (h8 : s < 8) (hi : i ≤ T.1) (hj : j ≤ T.1)
    (kk1 : may w T (hC H) s i j → P (.inl (some (.int 1)), (am_SH, I, J, Pf), 0, 0)) (kk0 : ¬ may w T (hC H) s i j → P (.inl (some (.int 0)), (am_SH, I, J, Pf), 0, 0)) : am_mth (d0 + 3) 264 [.ref 163, .int (ni d), .int (ni s), .int (ni i), .int (ni j)] (am_SH, I, J, Pf) P := by
  have h24 := hT.2.1
  obtain ⟨⟨-, w0'⟩, ⟨-, w1'⟩, ⟨-, w2'⟩, ⟨w3, w3'⟩, ⟨w4, w4'⟩, -⟩ := id hG.1
  have LD : ∀ (m c : Nat), wN w 4 - c = m → c ≤ wN w 4 → nBar w T s j → (∀ d, d < c → wN w (1008 + 4 * d) = s → hC H (wN w (1008 + 4 * d + 1)) i j = 0) → am_go none (d0 + 2) 264 (85, [some (.ref 163), some (.int (ni d)), some (.int (ni s)), some (.int (ni i)), some (.int (ni j)), some (.int (ni c))], [], (am_SH, I, J, Pf), 0, 0) P := by
    intro m
    induction m with
    | zero =>
      intro c hm hc hb hh
      have : c = wN w 4 := by omega
      subst this
      refine v264_85 hp ?_
      rw [hg, w4, if_pos ((ni_le (by omega) (by omega)).mpr (Nat.le_refl _))]
      refine kk1 ⟨hb, fun t ht => ?_⟩
      unfold drpW at ht
      obtain ⟨d', hd1, hd2⟩ := (anyB_iff _).mp ht
      unfold drpD at hd2
      rw [Bool.and_eq_true] at hd2
      rw [← of_decide_eq_true hd2.2]
      exact hh d' hd1 (of_decide_eq_true hd2.1)
    | succ m ih =>
      intro c hm hc hb hh
      obtain ⟨g1, g2, g3, g4, -⟩ := hG.dr (d := c) (by omega)
      refine v264_85 hp ?_
      rw [hg, w4, if_neg (fun z => absurd ((ni_le (by omega) (by omega)).mp z) (by omega)), show (4 : Int32) = ni 4 from rfl, ni_mul, show (1008 : Int32) + ni (4 * c) = ni (1008 + 4 * c) from ni_add 1008 _, ni_p1, show (ni (1008 + 4 * c)).toNatClampNeg = 1008 + 4 * c from ni_nat (by omega), show (ni (1008 + 4 * c + 1)).toNatClampNeg = 1008 + 4 * c + 1 from ni_nat (by omega), g2, ni_p1]
      refine ⟨ni_in (by omega) (by omega), ?_⟩
      by_cases c1 : wN w (1008 + 4 * c) = s
      · generalize htt : wN w (1008 + 4 * c + 1) = t at *
        have hcell : 625 * t + 25 * i + j < 5000 := by omega
        have hB := hM _ hcell
        rw [if_pos ((ni_inj (by omega) (by omega)).mpr c1), g4, show (8 : Int32) = ni 8 from rfl, show (625 : Int32) = ni 625 from rfl, show (25 : Int32) = ni 25 from rfl, ni_mul, ni_mul, ni_add, ni_mul, ni_add, ni_add, show (ni ((d * 8 + t) * 625 + i * 25 + j)).toNatClampNeg = 5000 * d + (625 * t + 25 * i + j) by rw [ni_nat (by omega)]; omega, hH _ hcell]
        refine ⟨ni_in (by omega) (by omega), ni_in (by omega) (by omega), ?_⟩
        by_cases c2 : H (625 * t + 25 * i + j) = 0
        · rw [if_pos ((lle 0 (by omega) (by omega)).mpr (by omega))]
          refine ih (c + 1) (by omega) (by omega) hb (fun d' hd' e => ?_)
          by_cases ed : d' = c
          · subst ed; rw [htt]; exact c2
          · exact hh d' (by omega) e
        · rw [if_neg (fun z => absurd ((lle 0 (by omega) (by omega)).mp z) (by omega))]
          refine kk0 (fun z => c2 (z.2 t ?_))
          unfold drpW
          refine (anyB_iff _).mpr ⟨c, by omega, ?_⟩
          unfold drpD
          rw [Bool.and_eq_true]
          exact ⟨decide_eq_true c1, decide_eq_true htt⟩
      · rw [if_neg (fun z => c1 ((ni_inj (by omega) (by omega)).mp z))]
        refine ih (c + 1) (by omega) (by omega) hb (fun d' hd' e => ?_)
        by_cases ed : d' = c
        · subst ed; exact absurd e c1
        · exact hh d' (by omega) e
  have LN : ∀ (m c : Nat), wN w 3 - c = m → c ≤ wN w 3 → (∀ k, k < c → wN w (992 + 2 * k) = s → j < T.1 → wCls w (wN w (992 + 2 * k + 1)) (sgI (T.2 j)) = false) → am_go none (d0 + 2) 264 (3, [some (.ref 163), some (.int (ni d)), some (.int (ni s)), some (.int (ni i)), some (.int (ni j)), some (.int (ni c))], [], (am_SH, I, J, Pf), 0, 0) P := by
    intro m
    induction m with
    | zero =>
      intro c hm hc hh
      have : c = wN w 3 := by omega
      subst this
      refine v264_3 hp ?_
      rw [hg, w3, if_pos ((ni_le (by omega) (by omega)).mpr (Nat.le_refl _)), show (0 : Int32) = ni 0 from rfl]
      exact LD _ 0 rfl (Nat.zero_le _) hh (fun d hd => absurd hd (by omega))
    | succ m ih =>
      intro c hm hc hh
      obtain ⟨g1, g2, g3, g4⟩ := hG.no (j := c) (by omega)
      refine v264_3 hp ?_
      rw [hg, w3, if_neg (fun z => absurd ((ni_le (by omega) (by omega)).mp z) (by omega)), show (2 : Int32) = ni 2 from rfl, ni_mul, show (992 : Int32) + ni (2 * c) = ni (992 + 2 * c) from ni_add 992 _, show (ni (992 + 2 * c)).toNatClampNeg = 992 + 2 * c from ni_nat (by omega), g2, ni_p1 c]
      refine ⟨ni_in (by omega) (by omega), ?_⟩
      by_cases c1 : wN w (992 + 2 * c) = s
      · rw [if_pos ((ni_inj (by omega) (by omega)).mpr c1), show (25 : Int32) = ni 25 from rfl, ni_mul, show (ni (25 * d)).toNatClampNeg = 25 * d from ni_nat (by omega), hT.1]
        refine ⟨ni_in (by omega) (by omega), ?_⟩
        by_cases c2 : T.1 ≤ j
        · rw [if_pos ((ni_le (by omega) (by omega)).mpr c2)]
          exact ih (c + 1) (by omega) (by omega) (fun k hk e hj2 => absurd hj2 (by omega))
        · have hsm := hTo.sg (i := j) (by omega)
          have hx := ho_x (w := w) (k := wN w (992 + 2 * c + 1)) (c := sgI (T.2 j)) (by omega) hsm.2
          rw [if_neg (fun z => c2 ((ni_le (by omega) (by omega)).mp z)), ni_p1, show (ni (992 + 2 * c + 1)).toNatClampNeg = 992 + 2 * c + 1 from ni_nat (by omega), g4, ni_p1, ni_add, show (ni (25 * d + 1 + j)).toNatClampNeg = 25 * d + 1 + j from ni_nat (by omega), hT.2.2 j (by omega), hsm.1]
          refine ⟨ni_in (by omega) (by omega), ni_in (by omega) (by omega), hx.1, ?_⟩
          cases c3 : wCls w (wN w (992 + 2 * c + 1)) (sgI (T.2 j)) with
          | true =>
            rw [if_pos (hx.2.mpr c3)]
            refine kk0 (fun z => ?_)
            have := z.1 c (by omega) c1 (by omega)
            rw [c3] at this; cases this
          | false =>
            rw [if_neg (fun z => by have := hx.2.mp z; rw [c3] at this; cases this)]
            refine ih (c + 1) (by omega) (by omega) (fun k hk e hj2 => ?_)
            by_cases ek : k = c
            · subst ek; exact c3
            · exact hh k (by omega) e hj2
      · rw [if_neg (fun z => c1 ((ni_inj (by omega) (by omega)).mp z))]
        refine ih (c + 1) (by omega) (by omega) (fun k hk e hj2 => ?_)
        by_cases ek : k = c
        · subst ek; exact absurd e c1
        · exact hh k (by omega) e hj2
  refine am_mth_of rfl rfl (v264_0 hp ?_)
  rw [show (0 : Int32) = ni 0 from rfl]
  exact LN _ 0 rfl (Nat.zero_le _) (fun k hk => absurd hk (by omega))
theorem sr_lower (hp : am_PF Pf) (hG : WG w) {d : Nat} (hd : d ≤ 3) {I : am_I} (hg : I 167 = w) (hT : rTd d I T) (hTo : txOK T) {H : Nat → Nat} {M : Nat} (hH : rHi d I H) (hM : hBd H M) (hM2 : M ≤ 100000) {s i j v : Nat} (h8 : s < 8) (hi : i ≤ T.1) (hj : j ≤ T.1) (hv : v ≤ 100001)
    (kk0 : ((0 < hC H s i j ∧ hC H s i j ≤ v) ∨ ¬ may w T (hC H) s i j) → P (.inl (some (.int 0)), (am_SH, I, J, Pf), 0, 0)) (kk1 : ¬ (0 < hC H s i j ∧ hC H s i j ≤ v) → may w T (hC H) s i j → P (.inl (some (.int 1)), (am_SH, am_u I 184 (5000 * d + (625 * s + 25 * i + j)) (ni v), J, Pf), 0, 0)) : am_mth (d0 + 4) 265 [.ref 163, .int (ni d), .int (ni s), .int (ni i), .int (ni j), .int (ni v)] (am_SH, I, J, Pf) P := by
  have h24 := hT.2.1
  have hcell : 625 * s + 25 * i + j < 5000 := by omega
  have hB := hM _ hcell
  have eC : hC H s i j = H (625 * s + 25 * i + j) := rfl
  rw [eC] at kk0 kk1
  have eIx : (ni ((d * 8 + s) * 625 + i * 25 + j)).toNatClampNeg = 5000 * d + (625 * s + 25 * i + j) := by rw [ni_nat (by omega)]; omega
  have next : ¬ (0 < H (625 * s + 25 * i + j) ∧ H (625 * s + 25 * i + j) ≤ v) → am_go none (d0 + 3) 265 (32, [some (.ref 163), some (.int (ni d)), some (.int (ni s)), some (.int (ni i)), some (.int (ni j)), some (.int (ni v)), some (.int (ni ((d * 8 + s) * 625 + i * 25 + j)))], [], (am_SH, I, J, Pf), 0, 0) P := by
    intro hn
    refine v265_32 hp ?_
    refine sr_may (d0 := d0) hp hG hd hg hT hTo hH hM hM2 h8 hi hj (fun hm => am_back (v265_41 hp ?_)) (fun hm => am_back (v265_41 hp ?_))
    · rw [if_neg (by decide), eIx]
      exact ⟨ni_in (by omega) (by omega), kk1 hn hm⟩
    · rw [if_pos rfl]
      exact kk0 (Or.inr hm)
  refine am_mth_of rfl rfl (v265_0 hp ?_)
  rw [show (8 : Int32) = ni 8 from rfl, show (625 : Int32) = ni 625 from rfl, show (25 : Int32) = ni 25 from rfl, ni_mul, ni_add, ni_mul, ni_mul, ni_add, ni_add, eIx, hH _ hcell]
  refine ⟨ni_in (by omega) (by omega), ?_⟩
  by_cases c1 : H (625 * s + 25 * i + j) = 0
  · rw [if_pos ((lle 0 (by omega) (by omega)).mpr (by omega))]
    exact next (by omega)
  · rw [if_neg (fun z => absurd ((lle 0 (by omega) (by omega)).mp z) (by omega))]
    refine ⟨ni_in (by omega) (by omega), ?_⟩
    by_cases c2 : H (625 * s + 25 * i + j) ≤ v
    · rw [if_pos ((ni_le (by omega) (by omega)).mpr c2)]
      exact kk0 (Or.inl ⟨by omega, c2⟩)
    · rw [if_neg (fun z => c2 ((ni_le (by omega) (by omega)).mp z))]
      exact next (by omega)
end MAYB
