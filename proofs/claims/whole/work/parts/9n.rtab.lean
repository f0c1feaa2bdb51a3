/-! The reference's texts: classes of signs, runs, quotes, parts -/
/-- the text on a level -/
def rTd (d : Nat) (I : am_I) (T : TX) : Prop := I 183 (25 * d) = ni T.1 ∧ T.1 ≤ 24 ∧ ∀ i, i < T.1 → I 183 (25 * d + 1 + i) = T.2 i
theorem ni_div {a b : Nat} (ha : a < 2147483648) (hb : b < 2147483648) : ni a / ni b = ni (a / b) := (Int32.ofNat_div ha hb).symm
theorem ho_i {k c : Nat} (hk : k < 1000) (hc : c < 95) : (8 : Int32) + 3 * ni k + (ni (c + 32) - 32) / 32 = ni (8 + 3 * k + c / 32) := by
  rw [show (8 : Int32) = ni 8 from rfl, show (3 : Int32) = ni 3 from rfl, show (32 : Int32) = ni 32 from rfl, ni_sub (by omega), ni_div (by omega) (by omega), ni_mul, ni_add, ni_add, Nat.add_sub_cancel]
theorem ho_r {c : Nat} (hc : c < 95) : (ni (c + 32) - 32) - (ni (c + 32) - 32) / 32 * 32 = ni (c % 32) := by
  rw [show (32 : Int32) = ni 32 from rfl, ni_sub (by omega), Nat.add_sub_cancel, ni_div (by omega) (by omega), ni_mul, ni_sub (by omega)]
  congr 1
  omega
theorem ho_b {w : Nat → Int32} {k c : Nat} (hc : c < 95) : bI (w (8 + 3 * k + c / 32)) (c % 32) = wCls w k c := by
  unfold wCls r3
  by_cases c1 : c < 32
  · rw [if_pos c1, show c / 32 = 0 by omega, show c % 32 = c by omega]
    rfl
  · rw [if_neg c1]
    by_cases c2 : c < 64
    · rw [if_pos c2, show c / 32 = 1 by omega, show c % 32 = c - 32 by omega]
    · rw [if_neg c2, show c / 32 = 2 by omega, show c % 32 = c - 64 by omega]
theorem ho_x {w : Nat → Int32} {k c : Nat} (hk : k < 8) (hc : c < 95) : am_in ((8 : Int32) + 3 * ni k + (ni (c + 32) - 32) / 32) 1040 = true ∧ ((((w ((8 : Int32) + 3 * ni k + (ni (c + 32) - 32) / 32).toNatClampNeg) >>> (((ni (c + 32) - 32) - (ni (c + 32) - 32) / 32 * 32) &&& 31)) &&& 1) = 1 ↔ wCls w k c = true) := by
  rw [ho_i (by omega) hc, ho_r hc, show (ni (8 + 3 * k + c / 32)).toNatClampNeg = 8 + 3 * k + c / 32 from ni_nat (by omega)]
  exact ⟨ni_in (by omega) (by omega), by rw [bI_sh (by omega), ho_b hc]⟩
/-- what quotes on a level change -/
def rUf (d : Nat) (I I' : am_I) : Prop := ∀ o k, ¬ (o = 183 ∧ 25 * (d + 1) ≤ k ∧ k < 25 * (d + 2)) → I' o k = I o k
theorem rUf.trans {d : Nat} {I I' I'' : am_I} (h : rUf d I I') (g : rUf d I' I'') : rUf d I I'' := fun o k e => (g o k e).trans (h o k e)
theorem rUf.rfl' {d : Nat} {I : am_I} : rUf d I I := fun _ _ _ => rfl
theorem rTd.of {d e : Nat} {I I' : am_I} {T : TX} (h : rTd d I T) (f : rUf e I I') (hd : d ≤ e) : rTd d I' T := by
  have := h.2.1
  exact ⟨(f _ _ (by omega)).trans h.1, h.2.1, fun i hi => (f _ _ (by omega)).trans (h.2.2 i hi)⟩
theorem prE_k {w : Nat → Int32} {T : TX} {S S' : Nat → Nat → Nat → Prop} {p k b e : Nat} (h : w (eP p k) ≠ 1) (g : prE w T S p k b e) : prE w T S' p k b e := by
  rcases g with z | z | z
  · exact Or.inl z
  · exact absurd z.1 h
  · exact Or.inr (Or.inr z)
section RTX
variable {d0 : Nat} {P : am_O → Prop} {J : am_J} {Pf : am_R} {T : TX} {w : Nat → Int32}
theorem sr_run (hp : am_PF Pf) (hG : WG w) {d : Nat} (hd : d ≤ 3) {I : am_I} (hg : I 167 = w) (hT : rTd d I T) (hTo : txOK T) {a : Nat} (ha : a ≤ T.1) (kk : P (.inl (some (.int (ni (rnT w T a)))), (am_SH, I, J, Pf), 0, 0)) : am_mth (d0 + 2) 258 [.ref 163, .int (ni d), .int (ni a)] (am_SH, I, J, Pf) P := by
  have h24 := hT.2.1
  have w0' := hG.1.1.2
  have LP : ∀ (m a : Nat), T.1 - a = m → a ≤ T.1 → P (.inl (some (.int (ni (rnT w T a)))), (am_SH, I, J, Pf), 0, 0) → ∀ x2, am_go none (d0 + 1) 258 (2, [some (.ref 163), some (.int (ni d)), some (.int x2), some (.int (ni a))], [], (am_SH, I, J, Pf), 0, 0) P := by
    intro m
    induction m with
    | zero =>
      intro a hm ha kk x2
      have : a = T.1 := by omega
      subst this
      rw [rnT_n rfl] at kk
      refine v258_2 hp rfl ?_
      rw [hg]
      rcases hG.2.2.2.2.2 with e | ⟨k, hk, e⟩
      · rw [if_pos e]; exact kk
      · rw [e, if_neg (ni_neg1 (by omega)), show (25 : Int32) = ni 25 from rfl, ni_mul, show (ni (25 * d)).toNatClampNeg = 25 * d from ni_nat (by omega), hT.1, if_pos ((ni_le (by omega) (by omega)).mpr (Nat.le_refl _))]
        exact ⟨ni_in (by omega) (by omega), kk⟩
    | succ m ih =>
      intro a hm ha kk x2
      have hsm := hTo.sg (i := a) (by omega)
      rw [rnT_s (by omega)] at kk
      refine v258_2 hp rfl ?_
      rw [hg]
      rcases hG.2.2.2.2.2 with e | ⟨k, hk, e⟩
      · have : blk w T a = false := by unfold blk; rw [e]; rfl
        rw [if_neg (by rw [this]; decide)] at kk
        rw [if_pos e]; exact kk
      · have en : wN w 5 = k := by unfold wN; rw [e]; exact ni_nat (by omega)
        have eb : blk w T a = wCls w k (sgI (T.2 a)) := by
          unfold blk
          rw [en, e, decide_eq_true (ni_neg1 (by omega)), Bool.true_and]
        rw [eb] at kk
        have hx := ho_x (w := w) (k := k) (c := sgI (T.2 a)) (by omega) hsm.2
        rw [e, if_neg (ni_neg1 (by omega)), show (25 : Int32) = ni 25 from rfl, ni_mul, ni_p1, ni_add, show (ni (25 * d)).toNatClampNeg = 25 * d from ni_nat (by omega), show (ni (25 * d + 1 + a)).toNatClampNeg = 25 * d + 1 + a from ni_nat (by omega), hT.1, hT.2.2 a (by omega), if_neg (fun z => absurd ((ni_le (by omega) (by omega)).mp z) (by omega)), hsm.1]
        refine ⟨ni_in (by omega) (by omega), ni_in (by omega) (by omega), hx.1, ?_⟩
        by_cases c : wCls w k (sgI (T.2 a)) = true
        · rw [if_pos c] at kk
          rw [if_pos (hx.2.mpr c), ni_p1]
          exact ih (a + 1) (by omega) (by omega) kk _
        · rw [if_neg c] at kk
          rw [if_neg (fun z => c (hx.2.mp z))]
          exact kk
  exact am_mth_of rfl rfl (v258_0 hp (LP _ a rfl ha kk _))
theorem sr_begin (hp : am_PF Pf) (hG : WG w) {d : Nat} (hd : d ≤ 3) {I : am_I} (hg : I 167 = w) (hT : rTd d I T) (hTo : txOK T) {p k a : Nat} (hpp : p < wN w 1) (hk : k < 100) (ha : a ≤ T.1) (kk : P (.inl (some (.int (ni (bgW w T p k a)))), (am_SH, I, J, Pf), 0, 0)) : am_mth (d0 + 3) 268 [.ref 163, .int (ni d), .int (ni p), .int (ni k), .int (ni a)] (am_SH, I, J, Pf) P := by
  have w1' := hG.1.2.1.2
  refine am_mth_of rfl rfl (v268_0 hp ?_)
  unfold bgW at kk
  by_cases c : k = 0
  · rw [if_pos (Or.inl c)] at kk
    rw [if_pos ((leq 0 (by omega) (by omega)).mpr c)]
    exact kk
  · rw [if_neg (fun z => c ((leq 0 (by omega) (by omega)).mp z)), hg, show (3 : Int32) = ni 3 from rfl, show (32 : Int32) = ni 32 from rfl, ni_mul, ni_add, ni_p1, show (ni (32 + 3 * p + 1)).toNatClampNeg = 32 + 3 * p + 1 from ni_nat (by omega)]
    refine ⟨ni_in (by omega) (by omega), ?_⟩
    by_cases c2 : w (32 + 3 * p + 1) = 0
    · rw [if_pos (Or.inr c2)] at kk
      rw [if_pos c2]
      exact kk
    · rw [if_neg (fun z => z.elim c c2)] at kk
      rw [if_neg c2]
      exact sr_run (d0 := d0) hp hG hd hg hT hTo ha (am_back (v268_32 hp kk))
theorem sr_unq (hp : am_PF Pf) (hG : WG w) {d : Nat} (hd : d ≤ 3) {I : am_I} (hg : I 167 = w) (hT : rTd d I T) (hTo : txOK T) {q i : Nat} (hq : q < wN w 2) (hi : i < 100)
    (kk : oq (unq w T q i) (∀ I', rUf d I I' → P (.inl (some (.int (-1))), (am_SH, I', J, Pf), 0, 0)) (fun B e => ∀ I', rTd (d + 1) I' B → txOK B → e ≤ T.1 → rUf d I I' → P (.inl (some (.int (ni e))), (am_SH, I', J, Pf), 0, 0))) : am_mth (d0 + 2) 259 [.ref 163, .int (ni d), .int (ni q), .int (ni i)] (am_SH, I, J, Pf) P := by
  have h24 := hT.2.1
  have w2' := hG.1.2.2.1.2
  obtain ⟨-, -, -, -, -, -, -, -, -, -, hcx⟩ := hG.2.2.1 q hq
  have LP : ∀ (f a m : Nat) (g : Nat → Int32) (I1 : am_I) (l2 l3 l7 : Option Value), T.1 ≤ a + f → m < a → a ≤ T.1 → rUf d I I1 → (∀ i, i < m → I1 183 (25 * (d + 1) + 1 + i) = g i) → oq (unqF (w (972 + 5 * q + 3)) (w (972 + 5 * q + 4)) T f a m g) (∀ I', rUf d I I' → P (.inl (some (.int (-1))), (am_SH, I', J, Pf), 0, 0)) (fun B e => ∀ I', rTd (d + 1) I' B → e ≤ T.1 → rUf d I I' → P (.inl (some (.int (ni e))), (am_SH, I', J, Pf), 0, 0)) → am_go none (d0 + 1) 259 (46, [some (.ref 163), some (.int (ni d)), l2, l3, some (.int (ni (972 + 5 * q))), some (.int (ni m)), some (.int (ni a)), l7], [], (am_SH, I1, J, Pf), 0, 0) P := by
    intro f
    induction f with
    | zero =>
      intro a m g I1 l2 l3 l7 hf hm ha hfr hgg kk
      have hT1 := hT.of hfr (Nat.le_refl _)
      refine v259_46 hp ?_
      rw [show (25 : Int32) = ni 25 from rfl, ni_mul, show (ni (25 * d)).toNatClampNeg = 25 * d from ni_nat (by omega), hT1.1, if_pos ((ni_le (by omega) (by omega)).mpr (by omega))]
      exact ⟨ni_in (by omega) (by omega), kk I1 hfr⟩
    | succ f ih =>
      intro a m g I1 l2 l3 l7 hf hm ha hfr hgg kk
      have hT1 := hT.of hfr (Nat.le_refl _)
      have hg1 : I1 167 = w := by rw [← hg]; funext k; exact hfr _ _ (by omega)
      unfold unqF at kk
      refine v259_46 hp ?_
      rw [show (25 : Int32) = ni 25 from rfl, ni_mul, show (ni (25 * d)).toNatClampNeg = 25 * d from ni_nat (by omega), hT1.1]
      refine ⟨ni_in (by omega) (by omega), ?_⟩
      by_cases c1 : T.1 ≤ a
      · rw [if_neg (by omega)] at kk
        rw [if_pos ((ni_le (by omega) (by omega)).mpr c1)]
        exact kk I1 hfr
      rw [if_pos (by omega)] at kk
      rw [if_neg (fun z => c1 ((ni_le (by omega) (by omega)).mp z)), hg1, show ni (972 + 5 * q) + 4 = ni (972 + 5 * q + 4) from ni_add _ 4, show ni (972 + 5 * q) + 3 = ni (972 + 5 * q + 3) from ni_add _ 3, ni_p1 (25 * d), ni_p1 a, ni_p1 (a + 1), ni_p1 d, ni_add, ni_add, ni_mul, show (ni (972 + 5 * q + 4)).toNatClampNeg = 972 + 5 * q + 4 from ni_nat (by omega), show (ni (972 + 5 * q + 3)).toNatClampNeg = 972 + 5 * q + 3 from ni_nat (by omega), show (ni (25 * d + 1 + a)).toNatClampNeg = 25 * d + 1 + a from ni_nat (by omega), show (ni (25 * d + 1 + (a + 1))).toNatClampNeg = 25 * d + 1 + (a + 1) from ni_nat (by omega), hT1.2.2 a (by omega), show (ni (25 * (d + 1))).toNatClampNeg = 25 * (d + 1) from ni_nat (by omega)]
      refine ⟨ni_in (by omega) (by omega), ni_in (by omega) (by omega), ?_⟩
      have step : ∀ (a' : Nat) (v : Int32) (l2 l3 : Option Value), a < a' → a' ≤ T.1 → oq (unqF (w (972 + 5 * q + 3)) (w (972 + 5 * q + 4)) T f a' (m + 1) (fu g m v)) (∀ I', rUf d I I' → P (.inl (some (.int (-1))), (am_SH, I', J, Pf), 0, 0)) (fun B e => ∀ I', rTd (d + 1) I' B → e ≤ T.1 → rUf d I I' → P (.inl (some (.int (ni e))), (am_SH, I', J, Pf), 0, 0)) → am_go none (d0 + 1) 259 (139, [some (.ref 163), some (.int (ni d)), l2, l3, some (.int (ni (972 + 5 * q))), some (.int (ni m)), some (.int (ni a')), some (.int v)], [], (am_SH, I1, J, Pf), 0, 0) P := by
        intro a' v l2 l3 h1 h2 kk
        refine v259_139 hp ?_
        rw [ni_p1 d, show (25 : Int32) = ni 25 from rfl, ni_mul, ni_p1 (25 * (d + 1)), ni_add, show (ni (25 * (d + 1) + 1 + m)).toNatClampNeg = 25 * (d + 1) + 1 + m from ni_nat (by omega), ni_p1]
        refine ⟨ni_in (by omega) (by omega), ih a' (m + 1) _ _ _ _ _ (by omega) (by omega) h2 (fun o j e1 => (am_u_nq (by omega)).trans (hfr o j e1)) (fun j hj => ?_) kk⟩
        unfold fu
        by_cases e : j = m
        · subst e; rw [am_u_same, if_pos rfl]
        · rw [am_u_nq (by omega), if_neg e]; exact hgg j (by omega)
      by_cases c3 : T.2 a = w (972 + 5 * q + 4)
      · rw [if_neg (by rw [c3]; exact hcx), if_pos c3] at kk
        rw [if_pos c3]
        refine ⟨ni_in (by omega) (by omega), ?_⟩
        by_cases c4 : a + 1 < T.1
        · rw [if_pos c4] at kk
          rw [if_neg (fun z => absurd ((ni_inj (by omega) (by omega)).mp z) (by omega)), hT1.2.2 (a + 1) c4]
          exact ⟨ni_in (by omega) (by omega), step (a + 2) _ _ _ (by omega) (by omega) kk⟩
        · rw [if_neg c4] at kk
          rw [if_pos ((ni_inj (by omega) (by omega)).mpr (by omega))]
          exact kk I1 hfr
      · rw [if_neg c3] at kk
        rw [if_neg c3]
        refine ⟨ni_in (by omega) (by omega), ?_⟩
        by_cases c2 : T.2 a = w (972 + 5 * q + 3)
        · rw [if_pos c2] at kk
          rw [if_pos c2]
          exact ⟨ni_in (by omega) (by omega), kk _ ⟨am_u_same, by show m ≤ 24; omega, fun j hj => by rw [am_u_nq (by omega)]; exact hgg j hj⟩ (by omega) (fun o j e1 => (am_u_nq (by omega)).trans (hfr o j e1))⟩
        · rw [if_neg c2] at kk
          rw [if_neg c2]
          exact step (a + 1) _ _ _ (by omega) (by omega) kk
  have kk' : oq (unq w T q i) (∀ I', rUf d I I' → P (.inl (some (.int (-1))), (am_SH, I', J, Pf), 0, 0)) (fun B e => ∀ I', rTd (d + 1) I' B → e ≤ T.1 → rUf d I I' → P (.inl (some (.int (ni e))), (am_SH, I', J, Pf), 0, 0)) := by
    cases hu : unq w T q i with
    | none => rw [hu] at kk; exact kk
    | some z =>
      rw [hu] at kk
      exact fun I' z1 z2 z3 => kk I' z1 (unq_ok (e := z.2) hTo hu).1 z2 z3
  clear kk
  unfold unq at kk'
  refine am_mth_of rfl rfl (v259_0 hp ?_)
  rw [show (25 : Int32) = ni 25 from rfl, ni_mul, show (ni (25 * d)).toNatClampNeg = 25 * d from ni_nat (by omega), hT.1]
  refine ⟨ni_in (by omega) (by omega), ?_⟩
  by_cases c1 : T.1 ≤ i
  · rw [if_neg (by omega)] at kk'
    rw [if_pos ((ni_le (by omega) (by omega)).mpr c1)]
    exact kk' I rUf.rfl'
  rw [if_neg (fun z => c1 ((ni_le (by omega) (by omega)).mp z)), hg, ni_p1, ni_add, show (5 : Int32) = ni 5 from rfl, ni_mul, show (972 : Int32) + ni (5 * q) = ni (972 + 5 * q) from ni_add 972 _, show ni (972 + 5 * q) + 2 = ni (972 + 5 * q + 2) from ni_add _ 2, ni_p1, show (ni (25 * d + 1 + i)).toNatClampNeg = 25 * d + 1 + i from ni_nat (by omega), show (ni (972 + 5 * q + 2)).toNatClampNeg = 972 + 5 * q + 2 from ni_nat (by omega), hT.2.2 i (by omega)]
  refine ⟨ni_in (by omega) (by omega), ni_in (by omega) (by omega), ?_⟩
  by_cases c2 : T.2 i = w (972 + 5 * q + 2)
  · rw [if_pos ⟨by omega, c2⟩] at kk'
    rw [if_pos c2, show (0 : Int32) = ni 0 from rfl]
    exact LP T.1 (i + 1) 0 _ I _ _ _ (by omega) (by omega) (by omega) rUf.rfl' (fun j hj => absurd hj (by omega)) kk'
  · rw [if_neg (fun z => c2 z.2)] at kk'
    rw [if_neg c2]
    exact kk' I rUf.rfl'
/-- where a part that is no sort ends -/
theorem sr_endof (hp : am_PF Pf) (hG : WG w) {d : Nat} (hd : d ≤ 3) {I : am_I} (hg : I 167 = w) (hT : rTd d I T) (hTo : txOK T) {p k b : Nat} (hpp : p < wN w 1) (hk : k < wN w (32 + 3 * p + 2)) (h1 : w (eP p k) ≠ 1) (hb : b < 100) (S : Nat → Nat → Nat → Prop)
    (kk1 : ∀ e, prE w T S p k b e → P (.inl (some (.int (ni e))), (am_SH, I, J, Pf), 0, 0)) (kk2 : (∀ e, ¬ prE w T S p k b e) → P (.inl (some (.int (-1))), (am_SH, I, J, Pf), 0, 0)) : am_mth (d0 + 2) 269 [.ref 163, .int (ni d), .int (ni (eP p k)), .int (ni b)] (am_SH, I, J, Pf) P := by
  have h24 := hT.2.1
  have w0' := hG.1.1.2
  have w1' := hG.1.2.1.2
  obtain ⟨-, -, hc4, -, -, g6⟩ := hG.pr hpp
  have hE : eP p k + 11 ≤ 1040 := by unfold eP; omega
  refine am_mth_of rfl rfl (v269_0 hp ?_)
  rw [hg, show (ni (eP p k)).toNatClampNeg = eP p k from ni_nat (by omega)]
  refine ⟨ni_in (by omega) (by omega), ?_⟩
  rcases g6 k hk with ⟨t1, c, t2, t3⟩ | ⟨t1, -⟩ | ⟨t1, mm, t2, t3, t4, t5⟩
  · have en : wN w (eP p k + 1) = c := by unfold wN; rw [t3]; exact ni_nat (by omega)
    rw [if_pos t1, show (25 : Int32) = ni 25 from rfl, ni_mul, show (ni (25 * d)).toNatClampNeg = 25 * d from ni_nat (by omega), hT.1]
    refine ⟨ni_in (by omega) (by omega), ?_⟩
    by_cases c1 : T.1 ≤ b
    · rw [if_pos ((ni_le (by omega) (by omega)).mpr c1)]
      refine kk2 (fun e g => ?_)
      rcases g with g | g | g
      · have := g.2.2.1; omega
      · exact h1 g.1
      · have := g.1; rw [t1] at this; cases this
    · have hsm := hTo.sg (i := b) (by omega)
      have hx := ho_x (w := w) (k := c) (c := sgI (T.2 b)) (by omega) hsm.2
      rw [if_neg (fun z => c1 ((ni_le (by omega) (by omega)).mp z)), ni_p1, show (ni (eP p k + 1)).toNatClampNeg = eP p k + 1 from ni_nat (by omega), t3, ni_p1, ni_add, show (ni (25 * d + 1 + b)).toNatClampNeg = 25 * d + 1 + b from ni_nat (by omega), hT.2.2 b (by omega), hsm.1]
      refine ⟨ni_in (by omega) (by omega), ni_in (by omega) (by omega), hx.1, ?_⟩
      by_cases c2 : wCls w c (sgI (T.2 b)) = true
      · rw [if_pos (hx.2.mpr c2), ni_p1]
        exact kk1 (b + 1) (Or.inl ⟨t1, rfl, by omega, by rw [en]; exact c2⟩)
      · rw [if_neg (fun z => c2 (hx.2.mp z))]
        refine kk2 (fun e g => ?_)
        rcases g with g | g | g
        · exact c2 (by rw [← en]; exact g.2.2.2)
        · exact h1 g.1
        · have := g.1; rw [t1] at this; cases this
  · exact absurd t1 h1
  · have en : wN w (eP p k + 2) = mm := by unfold wN; rw [t4]; exact ni_nat (by omega)
    rw [if_neg (by rw [t1]; decide), show (25 : Int32) = ni 25 from rfl, ni_mul, show (ni (25 * d)).toNatClampNeg = 25 * d from ni_nat (by omega), hT.1, show ni (eP p k) + 2 = ni (eP p k + 2) from ni_add _ 2, show (ni (eP p k + 2)).toNatClampNeg = eP p k + 2 from ni_nat (by omega), t4, ni_add]
    refine ⟨ni_in (by omega) (by omega), ni_in (by omega) (by omega), ?_⟩
    by_cases c1 : b + mm ≤ T.1
    · rw [if_pos ((ni_le (by omega) (by omega)).mpr c1)]
      have LP : ∀ (m c : Nat), mm - c = m → c ≤ mm → (∀ i, i < c → T.2 (b + i) = w (eP p k + 3 + i)) → am_go none (d0 + 1) 269 (78, [some (.ref 163), some (.int (ni d)), some (.int (ni (eP p k))), some (.int (ni b)), some (.int (ni mm)), some (.int (ni c))], [], (am_SH, I, J, Pf), 0, 0) P := by
        intro m
        induction m with
        | zero =>
          intro c hm hc hh
          have : c = mm := by omega
          subst this
          refine v269_78 hp ?_
          rw [if_pos ((ni_le (by omega) (by omega)).mpr (Nat.le_refl _)), ni_add]
          exact kk1 (b + c) (Or.inr (Or.inr ⟨t1, by rw [en], c1, fun i hi => hh i (by omega)⟩))
        | succ m ih =>
          intro c hm hc hh
          refine v269_78 hp ?_
          rw [if_neg (fun z => absurd ((ni_le (by omega) (by omega)).mp z) (by omega)), show (25 : Int32) = ni 25 from rfl, ni_mul, ni_p1 (25 * d), ni_add, ni_add, show ni (eP p k) + 3 = ni (eP p k + 3) from ni_add _ 3, ni_add, show (ni (25 * d + 1 + (b + c))).toNatClampNeg = 25 * d + 1 + (b + c) from ni_nat (by omega), show (ni (eP p k + 3 + c)).toNatClampNeg = eP p k + 3 + c from ni_nat (by omega), hg, hT.2.2 (b + c) (by omega), ni_p1]
          refine ⟨ni_in (by omega) (by omega), ni_in (by omega) (by omega), ?_⟩
          by_cases c2 : T.2 (b + c) = w (eP p k + 3 + c)
          · rw [if_pos c2]
            refine ih (c + 1) (by omega) (by omega) (fun i hi => ?_)
            by_cases e : i = c
            · subst e; exact c2
            · exact hh i (by omega)
          · rw [if_neg c2]
            refine kk2 (fun e g => ?_)
            rcases g with g | g | g
            · have := g.1; rw [t1] at this; cases this
            · exact h1 g.1
            · exact c2 (g.2.2.2 c (by omega))
      rw [show (0 : Int32) = ni 0 from rfl]
      exact LP _ 0 rfl (Nat.zero_le _) (fun i hi => absurd hi (by omega))
    · rw [if_neg (fun z => c1 ((ni_le (by omega) (by omega)).mp z))]
      refine kk2 (fun e g => ?_)
      rcases g with g | g | g
      · have := g.1; rw [t1] at this; cases this
      · exact h1 g.1
      · have := g.2.1; have := g.2.2.1; omega
end RTX
