/-! The reference: what sorts use, drop, need -/
def anyB : Nat → (Nat → Bool) → Bool
  | 0, _ => false
  | n + 1, f => anyB n f || f n
theorem anyB_iff {f : Nat → Bool} : ∀ n, (anyB n f = true) ↔ ∃ i, i < n ∧ f i = true
  | 0 => by
    constructor
    · intro h; cases h
    · rintro ⟨i, h, _⟩; omega
  | n + 1 => by
    unfold anyB
    rw [Bool.or_eq_true, anyB_iff n]
    constructor
    · rintro (⟨i, h1, h2⟩ | h)
      · exact ⟨i, by omega, h2⟩
      · exact ⟨n, by omega, h⟩
    · rintro ⟨i, h1, h2⟩
      by_cases c : i = n
      · subst c; exact Or.inr h2
      · exact Or.inl ⟨i, by omega, h2⟩
/-- sort t is a part of production p, behind sort s -/
def useP (w : Nat → Int32) (s t p k : Nat) : Bool := decide (wN w (32 + 3 * p) = s) && anyB k (fun k => decide (w (eP p k) = 1) && decide (wN w (eP p k + 1) = t))
def useQ (w : Nat → Int32) (s t q : Nat) : Bool := decide (wN w (972 + 5 * q) = s) && decide (wN w (972 + 5 * q + 1) = t)
def useW (w : Nat → Int32) (s t : Nat) : Bool := anyB (wN w 1) (fun p => useP w s t p (wN w (32 + 3 * p + 2))) || anyB (wN w 2) (useQ w s t)
def drpD (w : Nat → Int32) (s t d : Nat) : Bool := decide (wN w (1008 + 4 * d) = s) && decide (wN w (1008 + 4 * d + 1) = t)
def drpW (w : Nat → Int32) (s t : Nat) : Bool := anyB (wN w 4) (drpD w s t)
/-- a row of sets of sorts, as bits -/
def btR (I : am_I) (o : Nat) (f : Nat → Nat → Bool) : Prop := ∀ s, s < 8 → ∀ t, t < 32 → bI (I o s) t = f s t
theorem btR.set {I : am_I} {o s x : Nat} {f g : Nat → Nat → Bool} (h : btR I o f) (hs : s < 8) (hx : x < 32) (e : ∀ a t, a < 8 → t < 32 → g a t = (f a t || (decide (a = s) && decide (t = x)))) : btR (am_u I o s (I o s ||| ((1 : Int32) <<< (ni x &&& 31)))) o g := by
  intro a ha t ht
  rw [e a t ha ht]
  by_cases c : a = s
  · subst c
    rw [am_u_same, bI_or, h a ha t ht, bI_one hx ht, decide_eq_true rfl, Bool.true_and]
  · rw [am_u_nq (by omega), h a ha t ht, decide_eq_false c, Bool.false_and, Bool.or_false]
theorem btR.of {I : am_I} {o : Nat} {f g : Nat → Nat → Bool} (h : btR I o f) (e : ∀ a t, a < 8 → t < 32 → g a t = f a t) : btR I o g := fun a ha t ht => by rw [e a t ha ht]; exact h a ha t ht
theorem WG.pr {w : Nat → Int32} (h : WG w) {p : Nat} (hp : p < wN w 1) : wN w (32 + 3 * p) < 8 ∧ w (32 + 3 * p) = ni (wN w (32 + 3 * p)) ∧ wN w (32 + 3 * p + 2) ≤ 4 ∧ w (32 + 3 * p + 2) = ni (wN w (32 + 3 * p + 2)) ∧ (w (32 + 3 * p + 1) = 0 ∨ w (32 + 3 * p + 1) = 1) ∧ ∀ k, k < wN w (32 + 3 * p + 2) → pOK w (wN w 0) (eP p k) := by
  obtain ⟨s, m, h1, h2, h3, h4, h5, h6⟩ := h.2.1 p hp
  have e1 : wN w (32 + 3 * p) = s := by unfold wN; rw [h3, ni_nat (by omega)]
  have e2 : wN w (32 + 3 * p + 2) = m := by unfold wN; rw [h5, ni_nat (by omega)]
  rw [e1, e2]
  exact ⟨h1, h3, h2, h5, h4, h6⟩
theorem WG.qu {w : Nat → Int32} (h : WG w) {q : Nat} (hq : q < wN w 2) : wN w (972 + 5 * q) < 8 ∧ w (972 + 5 * q) = ni (wN w (972 + 5 * q)) ∧ wN w (972 + 5 * q + 1) < 8 ∧ w (972 + 5 * q + 1) = ni (wN w (972 + 5 * q + 1)) := by
  obtain ⟨s, t, h1, h2, h3, h4, -⟩ := h.2.2.1 q hq
  have e1 : wN w (972 + 5 * q) = s := by unfold wN; rw [h3, ni_nat (by omega)]
  have e2 : wN w (972 + 5 * q + 1) = t := by unfold wN; rw [h4, ni_nat (by omega)]
  rw [e1, e2]
  exact ⟨h1, h3, h2, h4⟩
theorem WG.dr {w : Nat → Int32} (h : WG w) {d : Nat} (hd : d < wN w 4) : wN w (1008 + 4 * d) < 8 ∧ w (1008 + 4 * d) = ni (wN w (1008 + 4 * d)) ∧ wN w (1008 + 4 * d + 1) < 8 ∧ w (1008 + 4 * d + 1) = ni (wN w (1008 + 4 * d + 1)) ∧ wN w (1008 + 4 * d) ≠ wN w (1008 + 4 * d + 1) := by
  obtain ⟨s, t, pl, c, h1, h2, h3, -, -, h6, h7, -⟩ := h.2.2.2.2.1 d hd
  have e1 : wN w (1008 + 4 * d) = s := by unfold wN; rw [h6, ni_nat (by omega)]
  have e2 : wN w (1008 + 4 * d + 1) = t := by unfold wN; rw [h7, ni_nat (by omega)]
  rw [e1, e2]
  exact ⟨h1, h6, h2, h7, h3⟩
theorem WG.so {w : Nat → Int32} {n0 e : Nat} (h : pOK w n0 e) (c : w e = 1) : wN w (e + 1) < 8 ∧ w (e + 1) = ni (wN w (e + 1)) := by
  rcases h with ⟨h1, -⟩ | ⟨-, s, h2, h3⟩ | ⟨h1, -⟩
  · rw [h1] at c; exact absurd c (by decide)
  · have e1 : wN w (e + 1) = s := by unfold wN; rw [h3, ni_nat (by omega)]
    rw [e1]; exact ⟨h2, h3⟩
  · rw [h1] at c; exact absurd c (by decide)
section RS
variable {d : Nat} {P : am_O → Prop} {J : am_J} {Pf : am_R} {w : Nat → Int32} {x : Nat}
theorem lit_ni (k : Nat) : (@OfNat.ofNat Int32 k _) = ni k := rfl
theorem i3 (a b : Nat) : (@OfNat.ofNat Int32 a _) + 3 * ni b = ni ((@OfNat.ofNat Nat a _) + 3 * b) := by rw [lit_ni, lit_ni, ni_mul, ni_add]; rfl
theorem i4 (a b : Nat) : (@OfNat.ofNat Int32 a _) + 4 * ni b = ni ((@OfNat.ofNat Nat a _) + 4 * b) := by rw [lit_ni, lit_ni, ni_mul, ni_add]; rfl
theorem i5 (a b : Nat) : (@OfNat.ofNat Int32 a _) + 5 * ni b = ni ((@OfNat.ofNat Nat a _) + 5 * b) := by rw [lit_ni, lit_ni, ni_mul, ni_add]; rfl
theorem i2 (a b : Nat) : (@OfNat.ofNat Int32 a _) + 2 * ni b = ni ((@OfNat.ofNat Nat a _) + 2 * b) := by rw [lit_ni, lit_ni, ni_mul, ni_add]; rfl
theorem sr_uses (hp : am_PF Pf) (hx : am_SH[x]? = some (.inr (0, 1040))) (hx9 : x ≠ 169) (hG : WG w) {I : am_I} (hw : I x = w)
    (kk : ∀ I', btR I' 169 (useW w) → (∀ o k, o ≠ 169 → I' o k = I o k) → P (.inl none, (am_SH, I', J, Pf), 0, 0)) : am_mth (d + 1) 230 [.ref 163, .ref x] (am_SH, I, J, Pf) P := by
  obtain ⟨⟨w0, w0'⟩, ⟨w1, w1'⟩, ⟨w2, w2'⟩, ⟨w3, w3'⟩, ⟨w4, w4'⟩, wk⟩ := id hG.1
  -- quotes
  have LQ : ∀ (m : Nat) (I : am_I) (q : Nat) (l3 l4 : Option Value), wN w 2 - q = m → q ≤ wN w 2 → I x = w → btR I 169 (fun s t => anyB (wN w 1) (fun p => useP w s t p (wN w (32 + 3 * p + 2))) || anyB q (useQ w s t)) → (∀ I', btR I' 169 (useW w) → (∀ o k, o ≠ 169 → I' o k = I o k) → P (.inl none, (am_SH, I', J, Pf), 0, 0)) → am_go none d 230 (105, [some (.ref 163), some (.ref x), some (.int (ni q)), l3, l4], [], (am_SH, I, J, Pf), 0, 0) P := by
    intro m
    induction m with
    | zero =>
      intro I q l3 l4 hm hq hw hB kk
      refine v230_105 hp hx ⟨by decide, ?_⟩
      rw [hw, show w (Int32.toNatClampNeg 2) = ni (wN w 2) from w2, if_pos ((ni_le (by omega) (by omega)).mpr (by omega))]
      have : q = wN w 2 := by omega
      subst this
      exact kk I hB (fun _ _ _ => rfl)
    | succ m ih =>
      intro I q l3 l4 hm hq hw hB kk
      obtain ⟨g1, g2, g3, g4⟩ := hG.qu (q := q) (by omega)
      refine v230_105 hp hx ⟨by decide, ?_⟩
      rw [hw, show w (Int32.toNatClampNeg 2) = ni (wN w 2) from w2, if_neg (fun z => absurd ((ni_le (by omega) (by omega)).mp z) (by omega)), i5, ni_p1, ni_nat (by omega), ni_nat (by omega), g2, g4, ni_nat (by omega), ni_p1]
      refine ⟨ni_in (by omega) (by omega), ni_in (by omega) (by omega), ni_in (by omega) (by omega), ni_in (by omega) (by omega), ?_⟩
      refine ih _ (q + 1) _ _ (by omega) (by omega) ((am_u_o hx9).trans hw) (hB.set g1 (by omega) (fun a t ha ht => ?_)) (fun I' f1 f2 => kk I' f1 (fun o k e => (f2 o k e).trans (am_u_nq (by omega))))
      show (_ || (anyB q (useQ w a t) || useQ w a t q)) = _
      rw [Bool.or_assoc]
      congr 2
      unfold useQ
      congr 1
      · exact decide_eq_decide.mpr eq_comm
      · exact decide_eq_decide.mpr eq_comm
  -- parts
  have LK : ∀ (m : Nat) (I : am_I) (p k : Nat) (l4 : Option Value), wN w (32 + 3 * p + 2) - k = m → k ≤ wN w (32 + 3 * p + 2) → p < wN w 1 → I x = w → btR I 169 (fun s t => anyB p (fun p => useP w s t p (wN w (32 + 3 * p + 2))) || useP w s t p k) → (∀ (I' : am_I) (l3 l4 : Option Value), I' x = w → btR I' 169 (fun s t => anyB (p + 1) (fun p => useP w s t p (wN w (32 + 3 * p + 2)))) → (∀ o k, o ≠ 169 → I' o k = I o k) → am_go none d 230 (23, [some (.ref 163), some (.ref x), some (.int (ni (p + 1))), l3, l4], [], (am_SH, I', J, Pf), 0, 0) P) → am_go none d 230 (32, [some (.ref 163), some (.ref x), some (.int (ni p)), some (.int (ni k)), l4], [], (am_SH, I, J, Pf), 0, 0) P := by
    intro m
    induction m with
    | zero =>
      intro I p k l4 hm hk hp1 hw hB kk
      obtain ⟨g1, g2, g3, g4, g5, g6⟩ := hG.pr hp1
      refine v230_32 hp hx ?_
      rw [i3, ni_p2, hw, ni_nat (by omega), g4]
      refine ⟨ni_in (by omega) (by omega), ?_⟩
      rw [if_pos ((ni_le (by omega) (by omega)).mpr (by omega)), ni_p1]
      have : k = wN w (32 + 3 * p + 2) := by omega
      subst this
      exact kk I _ _ hw hB (fun _ _ _ => rfl)
    | succ m ih =>
      intro I p k l4 hm hk hp1 hw hB kk
      obtain ⟨g1, g2, g3, g4, g5, g6⟩ := hG.pr hp1
      refine v230_32 hp hx ?_
      rw [i3, ni_p2, hw, show (ni (32 + 3 * p + 2)).toNatClampNeg = 32 + 3 * p + 2 from ni_nat (by omega), g4]
      refine ⟨ni_in (by omega) (by omega), ?_⟩
      rw [if_neg (fun z => absurd ((ni_le (by omega) (by omega)).mp z) (by omega)), eP_ni (by omega) (by omega), show (ni (eP p k)).toNatClampNeg = eP p k from ni_nat (by unfold eP; omega)]
      refine ⟨ni_in (by unfold eP; omega) (by unfold eP; omega), ?_⟩
      by_cases c : w (eP p k) = 1
      · obtain ⟨e1, e2⟩ := WG.so (g6 k (by omega)) c
        rw [if_pos c, ni_p1, show (ni (32 + 3 * p)).toNatClampNeg = 32 + 3 * p from ni_nat (by omega), g2, ni_nat (by omega), show (ni (eP p k + 1)).toNatClampNeg = eP p k + 1 from ni_nat (by unfold eP; omega), e2, ni_p1]
        refine ⟨ni_in (by omega) (by omega), ni_in (by omega) (by omega), ni_in (by unfold eP; omega) (by unfold eP; omega), ni_in (by omega) (by omega), ?_⟩
        refine ih _ p (k + 1) _ (by omega) (by omega) hp1 ((am_u_o hx9).trans hw) (hB.set g1 (by omega) (fun a t ha ht => ?_)) (fun I' l3 l4 f0 f1 f2 => kk I' l3 l4 f0 f1 (fun o k e => (f2 o k e).trans (am_u_nq (by omega))))
        rw [Bool.or_assoc]
        congr 1
        unfold useP
        show (_ && (_ || _)) = _
        rw [Bool.and_or_distrib_left]
        congr 1
        dsimp only
        rw [decide_eq_true c, Bool.true_and]
        congr 1
        · exact decide_eq_decide.mpr eq_comm
        · exact decide_eq_decide.mpr eq_comm
      · rw [if_neg c, ni_p1]
        refine ih _ p (k + 1) _ (by omega) (by omega) hp1 hw (hB.of (fun a t ha ht => ?_)) kk
        congr 1
        unfold useP
        show (_ && (_ || _)) = _
        dsimp only
        rw [decide_eq_false c, Bool.false_and, Bool.or_false]
  -- productions
  have LP : ∀ (m : Nat) (I : am_I) (p : Nat) (l3 l4 : Option Value), wN w 1 - p = m → p ≤ wN w 1 → I x = w → btR I 169 (fun s t => anyB p (fun p => useP w s t p (wN w (32 + 3 * p + 2)))) → (∀ I', btR I' 169 (useW w) → (∀ o k, o ≠ 169 → I' o k = I o k) → P (.inl none, (am_SH, I', J, Pf), 0, 0)) → am_go none d 230 (23, [some (.ref 163), some (.ref x), some (.int (ni p)), l3, l4], [], (am_SH, I, J, Pf), 0, 0) P := by
    intro m
    induction m with
    | zero =>
      intro I p l3 l4 hm hq hw hB kk
      refine v230_23 hp hx ⟨by decide, ?_⟩
      rw [hw, show w (Int32.toNatClampNeg 1) = ni (wN w 1) from w1, if_pos ((ni_le (by omega) (by omega)).mpr (by omega)), ni_0]
      have : p = wN w 1 := by omega
      subst this
      refine LQ _ I 0 _ _ rfl (Nat.zero_le _) hw (hB.of (fun a t _ _ => ?_)) kk
      show (_ || false) = _
      rw [Bool.or_false]
    | succ m ih =>
      intro I p l3 l4 hm hq hw hB kk
      refine v230_23 hp hx ⟨by decide, ?_⟩
      rw [hw, show w (Int32.toNatClampNeg 1) = ni (wN w 1) from w1, if_neg (fun z => absurd ((ni_le (by omega) (by omega)).mp z) (by omega)), ni_0]
      refine LK _ I p 0 _ rfl (Nat.zero_le _) (by omega) hw (hB.of (fun a t _ _ => ?_)) (fun I' l3 l4 f0 f1 f2 => ih I' (p + 1) l3 l4 (by omega) (by omega) f0 f1 (fun I'' g1 g2 => kk I'' g1 (fun o k e => (g2 o k e).trans (f2 o k e))))
      unfold useP
      show (_ || (_ && false)) = _
      rw [Bool.and_false, Bool.or_false]
  -- clearing
  have LC : ∀ (m : Nat) (I : am_I) (s : Nat) (l3 l4 : Option Value), 8 - s = m → s ≤ 8 → I x = w → (∀ i, i < s → I 169 i = 0) → (∀ I', btR I' 169 (useW w) → (∀ o k, o ≠ 169 → I' o k = I o k) → P (.inl none, (am_SH, I', J, Pf), 0, 0)) → am_go none d 230 (2, [some (.ref 163), some (.ref x), some (.int (ni s)), l3, l4], [], (am_SH, I, J, Pf), 0, 0) P := by
    intro m
    induction m with
    | zero =>
      intro I s l3 l4 hm hs hw hB kk
      refine v230_2 hp hx ?_
      rw [if_pos ((gle 8 (by omega) (by omega)).mpr (by omega)), ni_0]
      exact LP _ I 0 _ _ rfl (Nat.zero_le _) hw (fun a ha t ht => by rw [hB a (by omega), bI_0]; rfl) kk
    | succ m ih =>
      intro I s l3 l4 hm hs hw hB kk
      refine v230_2 hp hx ?_
      rw [if_neg (fun z => absurd ((gle 8 (by omega) (by omega)).mp z) (by omega)), ni_nat (by omega), ni_p1]
      refine ⟨ni_in (by omega) (by omega), ih _ (s + 1) _ _ (by omega) (by omega) ((am_u_o hx9).trans hw) (fun i hi => ?_) (fun I' f1 f2 => kk I' f1 (fun o k e => (f2 o k e).trans (am_u_nq (by omega))))⟩
      by_cases c : i = s
      · subst c; exact am_u_same
      · rw [am_u_nq (by omega)]; exact hB i (by omega)
  refine am_mth_of rfl rfl (v230_0 hp hx ?_)
  rw [ni_0]
  exact LC 8 I 0 _ _ rfl (by omega) hw (fun i hi => absurd hi (by omega)) kk
end RS
