/-! Sets of signs, counted and compared -/
def lsP (f : Nat → Bool) : Nat → Int32
  | 0 => -1
  | n + 1 => if lsP f n = -1 ∧ f n = true then ni (32 + n) else lsP f n
def gsP (f : Nat → Bool) : Nat → Int32
  | 0 => -1
  | n + 1 => if f n = true then ni (32 + n) else gsP f n
def stX (f : Nat → Bool) (n : Nat) : Bool := f n && !(decide (0 < n) && f (n - 1))
theorem lsP_no {f : Nat → Bool} : ∀ n, (∀ i, i < n → f i = false) → lsP f n = -1
  | 0, _ => rfl
  | n + 1, h => by
    unfold lsP
    rw [lsP_no n (fun i hi => h i (by omega)), if_neg (fun z => by have := z.2; rw [h n (by omega)] at this; cases this)]
theorem lsP_at {f : Nat → Bool} {k : Nat} (hk : f k = true) (h : ∀ i, i < k → f i = false) : ∀ m, k + 1 + m < 100000 → lsP f (k + 1 + m) = ni (32 + k)
  | 0, _ => by
    show (if lsP f k = -1 ∧ f k = true then ni (32 + k) else lsP f k) = _
    rw [if_pos ⟨lsP_no k h, hk⟩]
  | m + 1, hm => by
    show (if lsP f (k + 1 + m) = -1 ∧ f (k + 1 + m) = true then ni (32 + (k + 1 + m)) else lsP f (k + 1 + m)) = _
    rw [lsP_at hk h m (by omega), if_neg (fun z => ni_neg1 (by omega) z.1)]
theorem gsP_off {f : Nat → Bool} {a : Nat} : ∀ n, (∀ i, a ≤ i → i < a + n → f i = false) → gsP f (a + n) = gsP f a
  | 0, _ => rfl
  | n + 1, h => by
    show (if f (a + n) = true then _ else gsP f (a + n)) = _
    rw [if_neg (by rw [h (a + n) (by omega) (by omega)]; decide), gsP_off n (fun i h1 h2 => h i h1 (by omega))]
theorem gsP_val {f : Nat → Bool} : ∀ n, gsP f n = -1 ∨ ∃ k, k < n ∧ f k = true ∧ gsP f n = ni (32 + k) ∧ ∀ i, k < i → i < n → f i = false
  | 0 => Or.inl rfl
  | n + 1 => by
    unfold gsP
    by_cases c : f n = true
    · rw [if_pos c]
      exact Or.inr ⟨n, by omega, c, rfl, fun i h1 h2 => absurd h1 (by omega)⟩
    · rw [if_neg c]
      rcases gsP_val n with z | ⟨k, h1, h2, h3, h4⟩
      · exact Or.inl z
      · refine Or.inr ⟨k, by omega, h2, h3, fun i g1 g2 => ?_⟩
        by_cases e : i = n
        · subst e
          cases q : f i
          · rfl
          · exact absurd q c
        · exact h4 i g1 (by omega)
/-- the sign just before is of the set -/
theorem gsP_prev {f : Nat → Bool} {n : Nat} (hn : n < 100000) : (gsP f n = ni (32 + n) - 1) ↔ (decide (0 < n) && f (n - 1)) = true := by
  rw [show ni (32 + n) - 1 = ni (31 + n) by rw [show (32 + n) = 31 + n + 1 by omega]; exact ni_sub (a := 31 + n + 1) (b := 1) (by omega)]
  cases n with
  | zero =>
    constructor
    · intro z
      exact absurd z.symm (ni_neg1 (by omega))
    · intro z; simp at z
  | succ n =>
    rw [show decide (0 < n + 1) = true from decide_eq_true (by omega), Bool.true_and, Nat.add_sub_cancel]
    constructor
    · intro z
      rcases gsP_val (f := f) (n + 1) with y | ⟨k, h1, h2, h3, h4⟩
      · rw [y] at z; exact absurd z.symm (ni_neg1 (by omega))
      · rw [h3] at z
        have := (ni_inj (by omega) (by omega)).mp z
        have : k = n := by omega
        rw [← this]; exact h2
    · intro z
      show (if f n = true then ni (32 + n) else _) = _
      rw [if_pos z]
      congr 1
      omega
section SGC
variable {d s t : Nat} {P : am_O → Prop} {I : am_I} {J : am_J} {Pf : am_R} {f g : Nat → Bool}
theorem sg_size (hp : am_PF Pf) (hs : am_SH[s]? = some (.inl 6)) (hf : ∀ k, k < 95 → sgD J s k = f k) (hT : sgT J s) (kk : P (.inl (some (.int (ni (cntN f 95)))), (am_SH, I, J, Pf), 0, 0)) : am_mth (d + 2) 83 [.ref s] (am_SH, I, J, Pf) P := by
  refine am_mth_of rfl rfl (t83_0 hp hs ?_)
  refine jd_count64 hp (am_back (t83_7 hp hs ?_))
  refine jd_count64 hp (am_back (t83_14 hp ?_))
  have e1 : cntN (fun k => bJ (J s 0) k) 64 = cntN f 64 := cntN_congr 64 (fun k hk => by
    have := hf k (by omega)
    unfold sgD at this
    rw [if_pos hk] at this
    exact this)
  have e2 : cntN (fun k => bJ (J s 1) k) 64 = cntN (fun k => f (64 + k)) 31 := by
    have a := cntN_off (X := fun k => bJ (J s 1) k) (a := 31) 33 (fun i h1 _ => hT i h1)
    rw [show 31 + 33 = 64 from rfl] at a
    rw [a]
    exact cntN_congr 31 (fun k hk => by
      have := hf (64 + k) (by omega)
      unfold sgD at this
      rw [if_neg (by omega), Nat.add_sub_cancel_left] at this
      exact this)
  have e3 : cntN f 95 = cntN f 64 + cntN (fun k => f (64 + k)) 31 := cntN_add f 64 31
  rw [e1, e2, ni_add, ← e3]
  exact kk
theorem sgH_f (hf : ∀ k, k < 95 → sgD J s k = f k) {k : Nat} (hk : k < 95) : sgH (sgD J s) (32 + k) = f k := by
  unfold sgH
  rw [decide_eq_true (by omega), Bool.true_and, Nat.add_sub_cancel_left, hf k hk]
theorem sg_least (hp : am_PF Pf) (hs : am_SH[s]? = some (.inl 6)) (hf : ∀ k, k < 95 → sgD J s k = f k) (kk : P (.inl (some (.int (lsP f 95))), (am_SH, I, J, Pf), 0, 0)) : am_mth (d + 3) 87 [.ref s] (am_SH, I, J, Pf) P := by
  have LP : ∀ (m k : Nat), 95 - k = m → k ≤ 95 → (∀ i, i < k → f i = false) → am_go none (d + 2) 87 (3, [some (.ref s), some (.int (ni (32 + k)))], [], (am_SH, I, J, Pf), 0, 0) P := by
    intro m
    induction m with
    | zero =>
      intro k hm hk h
      have : k = 95 := by omega
      subst this
      refine t87_3 hp hs (fun _ => ?_) (fun z => absurd (show (126 : Int32) < ni (32 + 95) from by decide) z)
      rw [lsP_no 95 h] at kk
      exact kk
    | succ m ih =>
      intro k hm hk h
      refine t87_3 hp hs (fun z => absurd ((glt 126 (by omega) (by omega)).mp z) (by omega)) (fun _ => ?_)
      refine sp_sg_has hp hs (by omega) (am_back (t87_14 hp hs (fun z => ?_) (fun z => ?_)))
      · rw [sgH_f hf (by omega)] at z
        rw [ni_p1, Nat.add_assoc]
        refine ih (k + 1) (by omega) (by omega) (fun i hi => ?_)
        by_cases e : i = k
        · subst e
          cases q : f i
          · rfl
          · rw [q] at z; exact absurd z (by decide)
        · exact h i (by omega)
      · rw [sgH_f hf (by omega)] at z
        have fk : f k = true := by
          cases q : f k
          · rw [q] at z; exact absurd rfl z
          · rfl
        have := lsP_at fk h (94 - k) (by omega)
        rw [show k + 1 + (94 - k) = 95 by omega] at this
        rw [this] at kk
        exact kk
  exact am_mth_of rfl rfl (t87_0 hp hs (LP _ 0 rfl (Nat.zero_le _) (fun i hi => absurd hi (by omega))))
theorem sg_greatest (hp : am_PF Pf) (hs : am_SH[s]? = some (.inl 6)) (hf : ∀ k, k < 95 → sgD J s k = f k) (kk : P (.inl (some (.int (gsP f 95))), (am_SH, I, J, Pf), 0, 0)) : am_mth (d + 3) 88 [.ref s] (am_SH, I, J, Pf) P := by
  have LP : ∀ (k : Nat), k ≤ 95 → (∀ i, k ≤ i → i < 95 → f i = false) → am_go none (d + 2) 88 (3, [some (.ref s), some (.int (ni (31 + k)))], [], (am_SH, I, J, Pf), 0, 0) P := by
    intro k
    induction k with
    | zero =>
      intro hk h
      refine t88_3 hp hs (fun _ => ?_) (fun z => absurd (show ni (31 + 0) < (32 : Int32) from by decide) z)
      have := gsP_off (f := f) (a := 0) 95 (fun i h1 h2 => h i h1 (by omega))
      rw [Nat.zero_add] at this
      rw [this] at kk
      exact kk
    | succ k ih =>
      intro hk h
      refine t88_3 hp hs (fun z => absurd ((llt 32 (by omega) (by omega)).mp z) (by omega)) (fun _ => ?_)
      rw [show 31 + (k + 1) = 32 + k by omega]
      refine sp_sg_has hp hs (by omega) (am_back (t88_14 hp hs (fun z => ?_) (fun z => ?_)))
      · rw [sgH_f hf (by omega)] at z
        rw [show ni (32 + k) + -1 = ni (31 + k) by
          rw [← Int32.sub_eq_add_neg, show 32 + k = 31 + k + 1 by omega]; exact ni_sub (a := 31 + k + 1) (b := 1) (by omega)]
        refine ih (by omega) (fun i h1 h2 => ?_)
        by_cases e : i = k
        · subst e
          cases q : f i
          · rfl
          · rw [q] at z; exact absurd z (by decide)
        · exact h i (by omega) h2
      · rw [sgH_f hf (by omega)] at z
        have fk : f k = true := by
          cases q : f k
          · rw [q] at z; exact absurd rfl z
          · rfl
        have := gsP_off (f := f) (a := k + 1) (94 - k) (fun i h1 h2 => h i h1 (by omega))
        rw [show k + 1 + (94 - k) = 95 by omega, show gsP f (k + 1) = ni (32 + k) from if_pos fk] at this
        rw [this] at kk
        exact kk
  exact am_mth_of rfl rfl (t88_0 hp hs (LP 95 (Nat.le_refl _) (fun i h1 h2 => absurd h1 (by omega))))
theorem sg_stretches (hp : am_PF Pf) (hs : am_SH[s]? = some (.inl 6)) (hf : ∀ k, k < 95 → sgD J s k = f k) (kk : P (.inl (some (.int (ni (cntN (stX f) 95)))), (am_SH, I, J, Pf), 0, 0)) : am_mth (d + 3) 89 [.ref s] (am_SH, I, J, Pf) P := by
  have LP : ∀ (m k : Nat), 95 - k = m → k ≤ 95 → am_go none (d + 2) 89 (5, [some (.ref s), some (.int (ni (cntN (stX f) k))), some (.int (ni (32 + k)))], [], (am_SH, I, J, Pf), 0, 0) P := by
    intro m
    induction m with
    | zero =>
      intro k hm hk
      have : k = 95 := by omega
      subst this
      exact t89_5 hp hs (fun _ => kk) (fun z => absurd (show (126 : Int32) < ni (32 + 95) from by decide) z)
    | succ m ih =>
      intro k hm hk
      have nx := ih (k + 1) (by omega) (by omega)
      rw [show cntN (stX f) (k + 1) = cntN (stX f) k + (if stX f k = true then 1 else 0) from rfl, show 32 + (k + 1) = 32 + k + 1 by omega, ← ni_p1 (32 + k)] at nx
      refine t89_5 hp hs (fun z => absurd ((glt 126 (by omega) (by omega)).mp z) (by omega)) (fun _ => ?_)
      refine sp_sg_has hp hs (by omega) (am_back (t89_16 hp hs (fun z => ?_) (fun z => ?_)))
      · rw [sgH_f hf (by omega)] at z
        have fk : f k = false := by
          cases q : f k
          · rfl
          · rw [q] at z; exact absurd z (by decide)
        rw [show stX f k = false by unfold stX; rw [fk]; rfl, if_neg (by decide)] at nx
        exact nx
      · rw [sgH_f hf (by omega)] at z
        have fk : f k = true := by
          cases q : f k
          · rw [q] at z; exact absurd rfl z
          · rfl
        rw [show ni (32 + k) - 1 = ni (31 + k) by rw [show 32 + k = 31 + k + 1 by omega]; exact ni_sub (a := 31 + k + 1) (b := 1) (by omega)]
        have e : sgH (sgD J s) (31 + k) = (decide (0 < k) && f (k - 1)) := by
          cases k with
          | zero => unfold sgH; rfl
          | succ k =>
            rw [show 31 + (k + 1) = 32 + k by omega, sgH_f hf (by omega), show decide (0 < k + 1) = true from decide_eq_true (by omega), Bool.true_and, Nat.add_sub_cancel]
        refine sp_sg_has hp hs (by omega) (am_back (t89_26 hp hs (fun y => ?_) (fun y => ?_)))
        · rw [e] at y
          have : (decide (0 < k) && f (k - 1)) = true := by
            cases q : (decide (0 < k) && f (k - 1))
            · rw [q] at y; exact absurd rfl y
            · rfl
          rw [show stX f k = false by unfold stX; rw [this, fk]; rfl, if_neg (by decide)] at nx
          exact nx
        · rw [e] at y
          have : (decide (0 < k) && f (k - 1)) = false := by
            cases q : (decide (0 < k) && f (k - 1))
            · rfl
            · rw [q] at y; exact absurd (show ¬ (b2 true) = 0 from by decide) y
          rw [show stX f k = true by unfold stX; rw [this, fk]; rfl, if_pos rfl] at nx
          rw [ni_p1]
          exact nx
  exact am_mth_of rfl rfl (t89_0 hp hs (LP _ 0 rfl (Nat.zero_le _)))
/-- the two halves, told by signs -/
theorem sg_all {J : am_J} {s t : Nat} (q : Bool → Bool → Bool) (u v : Int64) (hf : ∀ k, k < 95 → sgD J s k = f k) (hg : ∀ k, k < 95 → sgD J t k = g k) (hT : sgT J s) (hT2 : sgT J t) (q0 : q false false = false) (hu : ∀ k, k < 64 → bJ u k = q (bJ (J s 0) k) (bJ (J t 0) k)) (hv : ∀ k, k < 64 → bJ v k = q (bJ (J s 1) k) (bJ (J t 1) k)) : (u = 0 ∧ v = 0) ↔ ∀ k, k < 95 → q (f k) (g k) = false := by
  constructor
  · rintro ⟨rfl, rfl⟩ k hk
    rw [← hf k hk, ← hg k hk]
    unfold sgD
    by_cases c : k < 64
    · rw [if_pos c, if_pos c, ← hu k c, bJ_0]
    · rw [if_neg c, if_neg c, ← hv _ (by omega), bJ_0]
  · intro h
    refine ⟨bJ_zero (fun k hk => ?_), bJ_zero (fun k hk => ?_)⟩
    · have := h k (by omega)
      rw [← hf k (by omega), ← hg k (by omega)] at this
      unfold sgD at this
      rw [if_pos hk, if_pos hk] at this
      rw [hu k hk]; exact this
    · rw [hv k hk]
      by_cases c : 31 ≤ k
      · rw [hT k c, hT2 k c, q0]
      · have := h (64 + k) (by omega)
        rw [← hf _ (by omega), ← hg _ (by omega)] at this
        unfold sgD at this
        rw [if_neg (by omega), if_neg (by omega), Nat.add_sub_cancel_left] at this
        exact this
theorem sg_like (hp : am_PF Pf) (hs : am_SH[s]? = some (.inl 6)) (ht : am_SH[t]? = some (.inl 6)) (hf : ∀ k, k < 95 → sgD J s k = f k) (hg : ∀ k, k < 95 → sgD J t k = g k) (hT : sgT J s) (hT2 : sgT J t) (kk1 : (∀ k, k < 95 → f k = g k) → P (.inl (some (.int 1)), (am_SH, I, J, Pf), 0, 0)) (kk0 : ¬ (∀ k, k < 95 → f k = g k) → P (.inl (some (.int 0)), (am_SH, I, J, Pf), 0, 0)) : am_mth (d + 1) 84 [.ref s, .ref t] (am_SH, I, J, Pf) P := by
  have ex : (J s 0 = J t 0 ∧ J s 1 = J t 1) ↔ ∀ k, k < 95 → f k = g k := by
    have := sg_all (f := f) (g := g) (fun a b => a ^^ b) (J s 0 ^^^ J t 0) (J s 1 ^^^ J t 1) hf hg hT hT2 rfl (fun k _ => bJ_xor _ _ _) (fun k _ => bJ_xor _ _ _)
    have e : ∀ a b : Int64, a ^^^ b = 0 ↔ a = b := fun a b => Int64.xor_eq_zero_iff
    rw [e, e] at this
    rw [this]
    constructor
    · intro h k hk
      have := h k hk
      cases a : f k <;> cases b : g k <;> simp_all
    · intro h k hk
      show (f k ^^ g k) = false
      rw [h k hk]
      cases g k <;> rfl
  refine am_mth_of rfl rfl (t84_0 hp hs ht (fun z => ?_) (fun z y => ?_) (fun z y => ?_))
  · exact kk0 (fun h => z (lg_cmp_0.mpr (ex.mpr h).1))
  · exact kk0 (fun h => y (lg_cmp_0.mpr (ex.mpr h).2))
  · exact kk1 (ex.mp ⟨lg_cmp_0.mp (Classical.not_not.mp z), lg_cmp_0.mp (Classical.not_not.mp y)⟩)
theorem sg_within (hp : am_PF Pf) (hs : am_SH[s]? = some (.inl 6)) (ht : am_SH[t]? = some (.inl 6)) (hf : ∀ k, k < 95 → sgD J s k = f k) (hg : ∀ k, k < 95 → sgD J t k = g k) (hT : sgT J s) (hT2 : sgT J t) (kk1 : (∀ k, k < 95 → f k = true → g k = true) → P (.inl (some (.int 1)), (am_SH, I, J, Pf), 0, 0)) (kk0 : ¬ (∀ k, k < 95 → f k = true → g k = true) → P (.inl (some (.int 0)), (am_SH, I, J, Pf), 0, 0)) : am_mth (d + 1) 85 [.ref s, .ref t] (am_SH, I, J, Pf) P := by
  have ex : (J s 0 &&& (J t 0 ^^^ (-1)) = 0 ∧ J s 1 &&& (J t 1 ^^^ (-1)) = 0) ↔ ∀ k, k < 95 → f k = true → g k = true := by
    have := sg_all (f := f) (g := g) (fun a b => a && !b) (J s 0 &&& (J t 0 ^^^ (-1))) (J s 1 &&& (J t 1 ^^^ (-1))) hf hg hT hT2 rfl (fun k hk => by rw [bJ_and, bJ_not hk]) (fun k hk => by rw [bJ_and, bJ_not hk])
    rw [this]
    constructor
    · intro h k hk hh
      have := h k hk
      cases b : g k <;> simp_all
    · intro h k hk
      have := h k hk
      cases a : f k <;> cases b : g k <;> simp_all
  refine am_mth_of rfl rfl (t85_0 hp hs ht (fun z => ?_) (fun z y => ?_) (fun z y => ?_))
  · exact kk0 (fun h => z (lg_cmp_0.mpr (ex.mpr h).1))
  · exact kk0 (fun h => y (lg_cmp_0.mpr (ex.mpr h).2))
  · exact kk1 (ex.mp ⟨lg_cmp_0.mp (Classical.not_not.mp z), lg_cmp_0.mp (Classical.not_not.mp y)⟩)
theorem sg_meets (hp : am_PF Pf) (hs : am_SH[s]? = some (.inl 6)) (ht : am_SH[t]? = some (.inl 6)) (hf : ∀ k, k < 95 → sgD J s k = f k) (hg : ∀ k, k < 95 → sgD J t k = g k) (hT : sgT J s) (hT2 : sgT J t) (kk1 : (∃ k, k < 95 ∧ f k = true ∧ g k = true) → P (.inl (some (.int 1)), (am_SH, I, J, Pf), 0, 0)) (kk0 : ¬ (∃ k, k < 95 ∧ f k = true ∧ g k = true) → P (.inl (some (.int 0)), (am_SH, I, J, Pf), 0, 0)) : am_mth (d + 1) 86 [.ref s, .ref t] (am_SH, I, J, Pf) P := by
  have ex : (J s 0 &&& J t 0 = 0 ∧ J s 1 &&& J t 1 = 0) ↔ ∀ k, k < 95 → (f k && g k) = false := sg_all (f := f) (g := g) (fun a b => a && b) (J s 0 &&& J t 0) (J s 1 &&& J t 1) hf hg hT hT2 rfl (fun k _ => bJ_and _ _ _) (fun k _ => bJ_and _ _ _)
  have no : ∀ (z : ¬ (J s 0 &&& J t 0 = 0 ∧ J s 1 &&& J t 1 = 0)), ∃ k, k < 95 ∧ f k = true ∧ g k = true := fun z => Classical.byContradiction (fun hn => z (ex.mpr (fun k hk => by
    cases a : f k <;> cases b : g k <;> first | rfl | exact absurd ⟨k, hk, a, b⟩ hn)))
  refine am_mth_of rfl rfl (t86_0 hp hs ht (fun z => ?_) (fun z y => ?_) (fun z y => ?_))
  · exact kk1 (no (fun h => z (lg_cmp_0.mpr h.1)))
  · refine kk0 (fun ⟨k, h1, h2, h3⟩ => ?_)
    have := ex.mp ⟨lg_cmp_0.mp (Classical.not_not.mp z), lg_cmp_0.mp y⟩ k h1
    rw [h2, h3] at this
    cases this
  · exact kk1 (no (fun h => y (lg_cmp_0.mpr h.2)))
end SGC
