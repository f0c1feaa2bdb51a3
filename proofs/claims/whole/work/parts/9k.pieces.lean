/-! Which pieces of a text are of which sort: the model -/
/-- a sign's number, from 0 on -/
def sgI (x : Int32) : Nat := x.toNatClampNeg - 32
def rnF (f : Nat → Bool) : Nat → Nat → Nat
  | 0, a => a
  | m + 1, a => if f a = true then rnF f m (a + 1) else a
def blk (w : Nat → Int32) (T : TX) (a : Nat) : Bool := decide (w 5 ≠ -1) && wCls w (wN w 5) (sgI (T.2 a))
/-- RUN -/
def rnT (w : Nat → Int32) (T : TX) (a : Nat) : Nat := rnF (blk w T) (T.1 - a) a
theorem rnF_le (f : Nat → Bool) : ∀ m a, a ≤ rnF f m a ∧ rnF f m a ≤ a + m
  | 0, a => ⟨Nat.le_refl _, Nat.le_refl _⟩
  | m + 1, a => by
    unfold rnF
    have := rnF_le f m (a + 1)
    split <;> omega
theorem rnT_le {w : Nat → Int32} {T : TX} {a : Nat} (h : a ≤ T.1) : a ≤ rnT w T a ∧ rnT w T a ≤ T.1 := by
  have := rnF_le (blk w T) (T.1 - a) a
  unfold rnT
  omega
/-- a part of a production, from b to e -/
def prE (w : Nat → Int32) (T : TX) (S : Nat → Nat → Nat → Prop) (p k b e : Nat) : Prop :=
  (w (eP p k) = 0 ∧ e = b + 1 ∧ b < T.1 ∧ wCls w (wN w (eP p k + 1)) (sgI (T.2 b)) = true)
  ∨ (w (eP p k) = 1 ∧ b ≤ e ∧ e ≤ T.1 ∧ S (wN w (eP p k + 1)) b e)
  ∨ (w (eP p k) = 2 ∧ e = b + wN w (eP p k + 2) ∧ e ≤ T.1 ∧ ∀ i, i < wN w (eP p k + 2) → T.2 (b + i) = w (eP p k + 3 + i))
/-- where the k-th part begins, the one ahead of it ending at a -/
def bgW (w : Nat → Int32) (T : TX) (p k a : Nat) : Nat := if k = 0 ∨ w (32 + 3 * p + 1) = 0 then a else rnT w T a
def rch (w : Nat → Int32) (T : TX) (S : Nat → Nat → Nat → Prop) (p i : Nat) : Nat → Nat → Prop
  | 0, j => j = i
  | k + 1, j => ∃ m, rch w T S p i k m ∧ prE w T S p k (bgW w T p k m) j
def stp (w : Nat → Int32) (T : TX) (Q : Nat → Nat → Nat → Prop) (S : Nat → Nat → Nat → Prop) (s i j : Nat) : Prop :=
  (∃ q, q < wN w 2 ∧ wN w (972 + 5 * q) = s ∧ Q q i j) ∨ ∃ p, p < wN w 1 ∧ wN w (32 + 3 * p) = s ∧ rch w T S p i (wN w (32 + 3 * p + 2)) j
def nBar (w : Nat → Int32) (T : TX) (s j : Nat) : Prop := ∀ k, k < wN w 3 → wN w (992 + 2 * k) = s → j < T.1 → wCls w (wN w (992 + 2 * k + 1)) (sgI (T.2 j)) = false
def nDrp (w : Nat → Int32) (H : Nat → Nat → Nat → Nat) (s i j : Nat) : Prop := ∀ t, drpW w s t = true → H t i j = 0
def may (w : Nat → Int32) (T : TX) (H : Nat → Nat → Nat → Nat) (s i j : Nat) : Prop := nBar w T s j ∧ nDrp w H s i j
/-- pieces of at most a height -/
def lo (H : Nat → Nat → Nat → Nat) (h : Nat) (t b e : Nat) : Prop := 0 < H t b e ∧ H t b e ≤ h
/-- heights that are right, from m on -/
def Sol (w : Nat → Int32) (T : TX) (Q : Nat → Nat → Nat → Prop) (m : Nat) (H : Nat → Nat → Nat → Nat) : Prop := ∀ s i j, s < 8 → m ≤ i → i ≤ j → j ≤ T.1 → ∀ h, lo H (h + 1) s i j ↔ (may w T H s i j ∧ stp w T Q (lo H h) s i j)
/-- signs that the grammar can't tell apart -/
def sgQ (w : Nat → Int32) (x y : Int32) : Prop := x = y ∨ ((∀ c, c < wN w 0 → wCls w c (sgI x) = wCls w c (sgI y)) ∧ (sgI x + 32 < 127 ∧ x = ni (sgI x + 32) ∧ nmS w (sgI x) = false) ∧ (sgI y + 32 < 127 ∧ y = ni (sgI y + 32) ∧ nmS w (sgI y) = false))
/-- texts that are alike from m on -/
def txQ (w : Nat → Int32) (m : Nat) (T U : TX) : Prop := T.1 = U.1 ∧ ∀ i, m ≤ i → i < T.1 → sgQ w (T.2 i) (U.2 i)
theorem sgQ.symm {w : Nat → Int32} {x y : Int32} (h : sgQ w x y) : sgQ w y x := by
  rcases h with h | ⟨h1, h2, h3⟩
  · exact Or.inl h.symm
  · exact Or.inr ⟨fun c hc => (h1 c hc).symm, h3, h2⟩
theorem txQ.symm {w : Nat → Int32} {m : Nat} {T U : TX} (h : txQ w m T U) : txQ w m U T := ⟨h.1.symm, fun i h1 h2 => (h.2 i h1 (by rw [h.1]; exact h2)).symm⟩
theorem txQ.rfl' {w : Nat → Int32} {m : Nat} {T : TX} : txQ w m T T := ⟨rfl, fun _ _ _ => Or.inl rfl⟩
theorem txQ.mono {w : Nat → Int32} {m m' : Nat} {T U : TX} (h : txQ w m T U) (hm : m ≤ m') : txQ w m' T U := ⟨h.1, fun i h1 h2 => h.2 i (by omega) h2⟩
theorem sgQ.cls {w : Nat → Int32} {x y : Int32} (h : sgQ w x y) {c : Nat} (hc : c < wN w 0) : wCls w c (sgI x) = wCls w c (sgI y) := by
  rcases h with h | ⟨h1, -, -⟩
  · rw [h]
  · exact h1 c hc
/-- a named sign is told from all others -/
theorem sgQ.nm {w : Nat → Int32} {x y v : Int32} (h : sgQ w x y) (hv : ∀ c, v = ni (c + 32) → c < 95 → nmS w c = true) : x = v ↔ y = v := by
  rcases h with h | ⟨-, ⟨h1, h2, h3⟩, ⟨g1, g2, g3⟩⟩
  · rw [h]
  · constructor
    · intro e
      have := hv (sgI x) (by rw [← e]; exact h2) (by omega)
      rw [h3] at this; cases this
    · intro e
      have := hv (sgI y) (by rw [← e]; exact g2) (by omega)
      rw [g3] at this; cases this
section PCS
variable {w : Nat → Int32}
theorem nm_lit {p k i : Nat} (hp : p < wN w 1) (hk : k < wN w (32 + 3 * p + 2)) (h2 : w (eP p k) = 2) (hi : i < wN w (eP p k + 2)) : ∀ c, w (eP p k + 3 + i) = ni (c + 32) → c < 95 → nmS w c = true := by
  intro c hc _
  unfold nmS
  rw [Bool.or_eq_true]
  right
  refine (anyB_iff _).mpr ⟨p, hp, (anyB_iff _).mpr ⟨k, hk, ?_⟩⟩
  unfold nmP
  rw [Bool.and_eq_true]
  exact ⟨decide_eq_true h2, (anyB_iff _).mpr ⟨i, hi, decide_eq_true hc⟩⟩
theorem nm_quo {q i : Nat} (hq : q < wN w 2) (hi : i < 3) : ∀ c, w (972 + 5 * q + 2 + i) = ni (c + 32) → c < 95 → nmS w c = true := by
  intro c hc _
  unfold nmS
  rw [Bool.or_eq_true]
  left
  refine (anyB_iff _).mpr ⟨3 * q + i, by omega, decide_eq_true ?_⟩
  rw [show (3 * q + i) / 3 = q by omega, show (3 * q + i) % 3 = i by omega]
  exact hc
theorem rnF_congr {f g : Nat → Bool} : ∀ m a, (∀ i, a ≤ i → i < a + m → f i = g i) → rnF f m a = rnF g m a
  | 0, _, _ => rfl
  | m + 1, a, h => by
    unfold rnF
    rw [h a (by omega) (by omega), rnF_congr m (a + 1) (fun i h1 h2 => h i (by omega) (by omega))]
theorem blk_tr (hG : WG w) {T U : TX} {m a : Nat} (h : txQ w m T U) (h1 : m ≤ a) (h2 : a < T.1) : blk w T a = blk w U a := by
  unfold blk
  rcases hG.2.2.2.2.2 with e | ⟨k, hk, e⟩
  · rw [decide_eq_false (fun z => z e), Bool.false_and, Bool.false_and]
  · have hk8 := hG.1.1.2
    have : wN w 5 = k := by unfold wN; rw [e]; exact ni_nat (by omega)
    rw [this, (h.2 a h1 h2).cls hk]
theorem rnT_tr (hG : WG w) {T U : TX} {m a : Nat} (h : txQ w m T U) (h1 : m ≤ a) : rnT w T a = rnT w U a := by
  unfold rnT
  rw [h.1]
  by_cases c : a ≤ U.1
  · refine rnF_congr _ _ (fun i h2 h3 => blk_tr hG h (by omega) (by rw [h.1]; omega))
  · rw [show U.1 - a = 0 by omega, rnF, rnF]
theorem bgW_tr (hG : WG w) {T U : TX} {m p k a : Nat} (h : txQ w m T U) (h1 : m ≤ a) : bgW w T p k a = bgW w U p k a := by
  unfold bgW
  rw [rnT_tr hG h h1]
theorem bgW_le {T : TX} {p k a : Nat} (h : a ≤ T.1) : a ≤ bgW w T p k a ∧ bgW w T p k a ≤ T.1 := by
  unfold bgW
  split
  · omega
  · exact rnT_le h
theorem prE_tr (hG : WG w) {T U : TX} {m p k b e : Nat} {S S' : Nat → Nat → Nat → Prop} (h : txQ w m T U) (hp : p < wN w 1) (hk : k < wN w (32 + 3 * p + 2)) (h1 : m ≤ b) (hS : w (eP p k) = 1 → S (wN w (eP p k + 1)) b e → S' (wN w (eP p k + 1)) b e) (g : prE w T S p k b e) : prE w U S' p k b e := by
  have h0 := hG.1.1.2
  obtain ⟨-, -, -, -, -, g6⟩ := hG.pr hp
  rcases g with ⟨g1, g2, g3, g4⟩ | ⟨g1, g2, g3, g4⟩ | ⟨g1, g2, g3, g4⟩
  · rcases g6 k hk with ⟨-, cc, t2, t3⟩ | ⟨t1, -⟩ | ⟨t1, -⟩
    · have : wN w (eP p k + 1) = cc := by unfold wN; rw [t3]; exact ni_nat (by omega)
      refine Or.inl ⟨g1, g2, by rw [← h.1]; exact g3, ?_⟩
      rw [← (h.2 b h1 g3).cls (by omega)]; exact g4
    · rw [g1] at t1; cases t1
    · rw [g1] at t1; cases t1
  · exact Or.inr (Or.inl ⟨g1, g2, by rw [← h.1]; exact g3, hS g1 g4⟩)
  · refine Or.inr (Or.inr ⟨g1, g2, by rw [← h.1]; exact g3, fun i hi => ?_⟩)
    exact ((h.2 (b + i) (by omega) (by omega)).nm (nm_lit hp hk g1 hi)).mp (g4 i hi)
theorem prE_le (hG : WG w) {T : TX} {p k b e : Nat} {S : Nat → Nat → Nat → Prop} (g : prE w T S p k b e) : b ≤ e ∧ e ≤ T.1 := by
  rcases g with ⟨g1, g2, g3, g4⟩ | ⟨g1, g2, g3, g4⟩ | ⟨g1, g2, g3, g4⟩ <;> omega
theorem rch_le (hG : WG w) {T : TX} {p i : Nat} {S : Nat → Nat → Nat → Prop} (hi : i ≤ T.1) : ∀ k j, rch w T S p i k j → i ≤ j ∧ j ≤ T.1
  | 0, j, h => by cases h; omega
  | k + 1, j, ⟨m, h1, h2⟩ => by
    have a1 := rch_le hG hi k m h1
    have a2 := bgW_le (w := w) (p := p) (k := k) a1.2
    have a3 := prE_le hG h2
    omega
theorem rch_tr (hG : WG w) {T U : TX} {m p i : Nat} {S S' : Nat → Nat → Nat → Prop} (h : txQ w m T U) (hp : p < wN w 1) (h1 : m ≤ i) (hi : i ≤ T.1) (hS : ∀ k, k < wN w (32 + 3 * p + 2) → w (eP p k) = 1 → ∀ b e, i ≤ b → b ≤ e → e ≤ T.1 → S (wN w (eP p k + 1)) b e → S' (wN w (eP p k + 1)) b e) : ∀ k j, k ≤ wN w (32 + 3 * p + 2) → rch w T S p i k j → rch w U S' p i k j
  | 0, j, _, g => g
  | k + 1, j, hk, ⟨x, g1, g2⟩ => by
    have a1 := rch_le hG hi k x g1
    have a2 := bgW_le (w := w) (p := p) (k := k) a1.2
    have a3 := prE_le hG g2
    refine ⟨x, rch_tr hG h hp h1 hi hS k x (by omega) g1, ?_⟩
    rw [← bgW_tr hG h (by omega)]
    exact prE_tr hG h hp (by omega) (by omega) (fun e1 => hS k (by omega) e1 _ _ (by omega) a3.1 a3.2) g2
/-- the sorts that a production uses -/
theorem use_pr {p k : Nat} (hp : p < wN w 1) (hk : k < wN w (32 + 3 * p + 2)) (h : w (eP p k) = 1) : useW w (wN w (32 + 3 * p)) (wN w (eP p k + 1)) = true := by
  unfold useW
  rw [Bool.or_eq_true]
  left
  refine (anyB_iff _).mpr ⟨p, hp, ?_⟩
  unfold useP
  rw [Bool.and_eq_true]
  refine ⟨decide_eq_true rfl, (anyB_iff _).mpr ⟨k, hk, ?_⟩⟩
  rw [Bool.and_eq_true]
  exact ⟨decide_eq_true h, decide_eq_true rfl⟩
theorem stp_tr (hG : WG w) {T U : TX} {m s i j : Nat} {Q Q' S S' : Nat → Nat → Nat → Prop} (h : txQ w m T U) (h1 : m ≤ i) (hi : i ≤ T.1) (hQ : ∀ q, q < wN w 2 → Q q i j → Q' q i j) (hS : ∀ t, t < 8 → useW w s t = true → ∀ b e, i ≤ b → b ≤ e → e ≤ T.1 → S t b e → S' t b e) (g : stp w T Q S s i j) : stp w U Q' S' s i j := by
  rcases g with ⟨q, g1, g2, g3⟩ | ⟨p, g1, g2, g3⟩
  · exact Or.inl ⟨q, g1, g2, hQ q g1 g3⟩
  · refine Or.inr ⟨p, g1, g2, rch_tr hG h g1 h1 hi (fun k hk e1 b e b1 b2 b3 => ?_) _ j (Nat.le_refl _) g3⟩
    have := WG.so ((hG.pr g1).2.2.2.2.2 k hk) e1
    exact hS _ this.1 (by rw [← g2]; exact use_pr g1 hk e1) b e b1 b2 b3
theorem nBar_tr (hG : WG w) {T U : TX} {m s j : Nat} (h : txQ w m T U) (h1 : m ≤ j) (g : nBar w T s j) : nBar w U s j := by
  intro k hk hs hj
  obtain ⟨s', c, a1, a2, a3, a4⟩ := hG.2.2.2.1 k hk
  have h0 := hG.1.1.2
  have : wN w (992 + 2 * k + 1) = c := by unfold wN; rw [a4]; exact ni_nat (by omega)
  rw [← (h.2 j h1 (by rw [h.1]; exact hj)).cls (by omega)]
  exact g k hk hs (by rw [h.1]; exact hj)
theorem drp_lt {s t : Nat} (hG : WG w) (h : drpW w s t = true) : s < 8 ∧ t < 8 := by
  unfold drpW at h
  obtain ⟨d, hd, h2⟩ := (anyB_iff _).mp h
  unfold drpD at h2
  rw [Bool.and_eq_true] at h2
  have := hG.dr hd
  have e1 := of_decide_eq_true h2.1
  have e2 := of_decide_eq_true h2.2
  omega
theorem lo_eq {H H' : Nat → Nat → Nat → Nat} {t b e : Nat} (h : ∀ k, lo H k t b e ↔ lo H' k t b e) : H t b e = H' t b e := by
  have h1 := h (H t b e)
  have h2 := h (H' t b e)
  unfold lo at h1 h2
  omega
/-- heights that are right are the same, of texts that are alike -/
theorem sol_uq (hG : WG w) (hs : sndW w) {T U : TX} {m : Nat} {Q Q' : Nat → Nat → Nat → Prop} {H H' : Nat → Nat → Nat → Nat} (h : txQ w m T U) (hQ : ∀ q i j, q < wN w 2 → m ≤ i → i ≤ j → j ≤ T.1 → (Q q i j ↔ Q' q i j)) (g : Sol w T Q m H) (g' : Sol w U Q' m H') : ∀ s i j, s < 8 → m ≤ i → i ≤ j → j ≤ T.1 → H s i j = H' s i j := by
  obtain ⟨ly1, -, -⟩ := lyW_least hG hs
  have key : ∀ L s, s < 8 → lyW w 64 s < L → ∀ i j, m ≤ i → i ≤ j → j ≤ T.1 → H s i j = H' s i j := by
    intro L
    induction L with
    | zero => intro s _ h; omega
    | succ L ih =>
      have inn : ∀ k s, s < 8 → lyW w 64 s < L + 1 → ∀ i j, m ≤ i → i ≤ j → j ≤ T.1 → (lo H k s i j ↔ lo H' k s i j) := by
        intro k
        induction k with
        | zero => intro s _ _ i j _ _ _; unfold lo; omega
        | succ k ihk =>
          intro s h8 hl i j b1 b2 b3
          rw [g s i j h8 b1 b2 b3 k, g' s i j h8 b1 b2 (by rw [← h.1]; exact b3) k]
          have em : nDrp w H s i j ↔ nDrp w H' s i j := by
            constructor <;> intro z t ht
            · have l2 := drp_lt hG ht
              have := (ly1 s t h8 l2.2).2 ht
              rw [← ih t l2.2 (by omega) i j b1 b2 b3]; exact z t ht
            · have l2 := drp_lt hG ht
              have := (ly1 s t h8 l2.2).2 ht
              rw [ih t l2.2 (by omega) i j b1 b2 b3]; exact z t ht
          constructor
          · rintro ⟨⟨z1, z2⟩, z3⟩
            refine ⟨⟨nBar_tr hG h (by omega) z1, em.mp z2⟩, stp_tr hG h b1 (by omega) (fun q hq => (hQ q i j hq b1 b2 b3).mp) (fun t ht hu b e c1 c2 c3 => ?_) z3⟩
            have := (ly1 s t h8 ht).1 hu
            exact (ihk t ht (by omega) b e (by omega) c2 c3).mp
          · rintro ⟨⟨z1, z2⟩, z3⟩
            refine ⟨⟨nBar_tr hG h.symm (by omega) z1, em.mpr z2⟩, stp_tr hG h.symm b1 (by rw [← h.1]; omega) (fun q hq => (hQ q i j hq b1 b2 b3).mpr) (fun t ht hu b e c1 c2 c3 => ?_) z3⟩
            have := (ly1 s t h8 ht).1 hu
            exact (ihk t ht (by omega) b e (by omega) c2 (by rw [h.1]; exact c3)).mpr
      intro s h8 hl i j b1 b2 b3
      exact lo_eq (fun k => inn k s h8 hl i j b1 b2 b3)
  intro s i j h8 b1 b2 b3
  exact key _ s h8 (Nat.lt_succ_self _) i j b1 b2 b3
end PCS
