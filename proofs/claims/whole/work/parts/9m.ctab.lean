/-! The class's tables: bodies, runs, what they hold -/
def oq (o : Option (TX × Nat)) (F : Prop) (K : TX → Nat → Prop) : Prop := match o with
  | none => F
  | some z => K z.1 z.2
theorem cTx.of {x y : Nat} {I I' : am_I} {T : TX} (h : cTx x I T) (f : cTf y I I') (hxy : x + 5 ≤ y ∨ y + 5 ≤ x) : cTx x I' T := ⟨(f _ _ (by omega) (by omega)).trans h.1, h.2.1, fun i hi => (f _ _ (by omega) (by omega)).trans (h.2.2 i hi)⟩
theorem cTf.trans {x : Nat} {I I' I'' : am_I} (h : cTf x I I') (g : cTf x I' I'') : cTf x I I'' := fun o k e1 e2 => (g o k e1 e2).trans (h o k e1 e2)
theorem cTf.rfl' {x : Nat} {I : am_I} : cTf x I I := fun _ _ _ _ => rfl
theorem txOK.sg {T : TX} (hT : txOK T) {i : Nat} (h : i < T.1) : T.2 i = ni (sgI (T.2 i) + 32) ∧ sgI (T.2 i) < 95 := by
  obtain ⟨c, h1, h2, h3⟩ := isSg_ni (hT.2 i h)
  have : sgI (T.2 i) = c - 32 := by unfold sgI; rw [h3, ni_nat (by omega)]
  rw [this, h3, show c - 32 + 32 = c by omega]
  exact ⟨rfl, by omega⟩
/-- the places at which bits stand -/
def bts (v : Int32) (P : Nat → Prop) : Prop := ∀ j, j < 32 → (bI v j = true ↔ P j)
theorem bts.of {v : Int32} {P Q : Nat → Prop} (h : bts v P) (e : ∀ j, j < 32 → (P j ↔ Q j)) : bts v Q := fun j hj => (h j hj).trans (e j hj)
theorem bts_0 {P : Nat → Prop} (h : ∀ j, j < 32 → ¬ P j) : bts 0 P := fun j hj => ⟨fun z => absurd z (by rw [bI_0]; decide), fun z => absurd z (h j hj)⟩
theorem bts_z {v : Int32} {P : Nat → Prop} (h : bts v P) : v = 0 ↔ ∀ j, j < 32 → ¬ P j := by
  constructor
  · rintro rfl j hj z
    have := (h j hj).mpr z
    rw [bI_0] at this; cases this
  · intro z
    refine bI_ext (fun k hk => ?_)
    rw [bI_0]
    cases e : bI v k with
    | false => rfl
    | true => exact absurd ((h k hk).mp e) (z k hk)
theorem bts_or {u v : Int32} {P Q : Nat → Prop} (h : bts u P) (g : bts v Q) : bts (u ||| v) (fun j => P j ∨ Q j) := fun j hj => by rw [bI_or, Bool.or_eq_true, h j hj, g j hj]
theorem bts_and {u v : Int32} {P Q : Nat → Prop} (h : bts u P) (g : bts v Q) : bts (u &&& v) (fun j => P j ∧ Q j) := fun j hj => by rw [bI_and, Bool.and_eq_true, h j hj, g j hj]
theorem bts_not {u : Int32} {P : Nat → Prop} (h : bts u P) : bts (u ^^^ (-1)) (fun j => ¬ P j) := fun j hj => by
  show _ ↔ ¬ P j
  rw [bI_not hj, Bool.not_eq_true', ← h j hj]
  cases bI u j <;> simp
theorem bts_one {a : Nat} (h : a < 32) : bts (1 <<< (ni a &&& 31)) (fun j => j = a) := fun j hj => by rw [bI_one h hj]; exact decide_eq_true_iff
theorem bts_us {v : Int32} {P : Nat → Prop} (h : bts v P) {j : Nat} (hj : j < 32) : ((UInt32.toInt32 (Int32.toUInt32 v >>> (Int32.toUInt32 (ni j) &&& Int32.toUInt32 31))) &&& 1 = 0) ↔ ¬ P j := by rw [bI_us hj, h j hj]
theorem bts_sh {v : Int32} {P : Nat → Prop} (h : bts v P) {j : Nat} (hj : j < 32) : (((v >>> (ni j &&& 31)) &&& 1) = 1) ↔ P j := by rw [bI_sh hj, h j hj]
section TBC
variable {d x : Nat} {P : am_O → Prop} {J : am_J} {Pf : am_R} {T : TX} {w : Nat → Int32} {r : Nat}
theorem sc_body (hp : am_PF Pf) (hx : am_SH[x]? = some (.inl 9)) {y : Nat} (hy : am_SH[y]? = some (.inl 9)) (hxy : x + 5 ≤ y ∨ y + 5 ≤ x) (hr : r = 16 ∨ r = 55) {I : am_I} (hT : cTx x I T) (hTo : txOK T) {q i : Nat} (hq : q < 4) (hQ : cGq r I w q) (hi : i < 100)
    (kk : oq (unq w T q i) (∀ I', cTf y I I' → P (.inl (some (.int (-1))), (am_SH, I', J, Pf), 0, 0)) (fun B e => ∀ I', cTx y I' B → txOK B → e ≤ T.1 → cTf y I I' → P (.inl (some (.int (ni e))), (am_SH, I', J, Pf), 0, 0))) : am_mth (d + 1) 115 [.ref x, .ref r, .int (ni q), .int (ni i), .ref y] (am_SH, I, J, Pf) P := by
  have hrs := rul_sh hr
  obtain ⟨-, -, hq3⟩ := hQ
  have h24 := hT.2.1
  have a0 := hq3 0 (by omega)
  have a1 := hq3 1 (by omega)
  have a2 := hq3 2 (by omega)
  have LP : ∀ (c z : Int32) (f a m : Nat) (g : Nat → Int32) (I1 : am_I) (l1 l2 l3 l9 : Option Value), T.1 ≤ a + f → m < a → a ≤ T.1 → cTf y I I1 → (∀ i, i < m → I1 (y + 1) i = g i) → oq (unqF c z T f a m g) (∀ I', cTf y I I' → P (.inl (some (.int (-1))), (am_SH, I', J, Pf), 0, 0)) (fun B e => ∀ I', cTx y I' B → e ≤ T.1 → cTf y I I' → P (.inl (some (.int (ni e))), (am_SH, I', J, Pf), 0, 0)) → am_go none d 115 (63, [some (.ref x), l1, l2, l3, some (.ref y), some (.int c), some (.int z), some (.int (ni m)), some (.int (ni a)), l9], [], (am_SH, I1, J, Pf), 0, 0) P := by
    intro c z f
    induction f with
    | zero =>
      intro a m g I1 l1 l2 l3 l9 hf hm ha hfr hg kk
      have hT1 := hT.of hfr hxy
      refine v115_63 hp hx hy ?_
      rw [hT1.1, if_pos ((ni_le (by omega) (by omega)).mpr (by omega))]
      exact kk I1 hfr
    | succ f ih =>
      intro a m g I1 l1 l2 l3 l9 hf hm ha hfr hg kk
      have hT1 := hT.of hfr hxy
      unfold unqF at kk
      refine v115_63 hp hx hy ?_
      rw [hT1.1, show (ni a).toNatClampNeg = a from ni_nat (by omega)]
      by_cases c1 : T.1 ≤ a
      · rw [if_neg (by omega)] at kk
        rw [if_pos ((ni_le (by omega) (by omega)).mpr c1)]
        exact kk I1 hfr
      rw [if_pos (by omega)] at kk
      rw [if_neg (fun z => c1 ((ni_le (by omega) (by omega)).mp z)), hT1.2.2 a (by omega), ni_p1]
      refine ⟨ni_in (by omega) (by omega), ?_⟩
      have step : ∀ (a' : Nat) (v : Int32) (l1 l2 l3 : Option Value), a < a' → a' ≤ T.1 → oq (unqF c z T f a' (m + 1) (fu g m v)) (∀ I', cTf y I I' → P (.inl (some (.int (-1))), (am_SH, I', J, Pf), 0, 0)) (fun B e => ∀ I', cTx y I' B → e ≤ T.1 → cTf y I I' → P (.inl (some (.int (ni e))), (am_SH, I', J, Pf), 0, 0)) → am_go none d 115 (130, [some (.ref x), l1, l2, l3, some (.ref y), some (.int c), some (.int z), some (.int (ni m)), some (.int (ni (a' - 1))), some (.int v)], [], (am_SH, I1, J, Pf), 0, 0) P := by
        intro a' v l1 l2 l3 h1 h2 kk
        refine v115_130 hp hx hy ?_
        rw [show (ni m).toNatClampNeg = m from ni_nat (by omega), ni_p1, ni_p1, show a' - 1 + 1 = a' by omega]
        refine ⟨ni_in (by omega) (by omega), ih a' (m + 1) _ _ _ _ _ _ (by omega) (by omega) h2 (fun o j e1 e2 => (am_u_nq (by omega)).trans (hfr o j e1 e2)) (fun j hj => ?_) kk⟩
        unfold fu
        by_cases e : j = m
        · subst e; rw [am_u_same, if_pos rfl]
        · rw [am_u_nq (by omega), if_neg e]; exact hg j (by omega)
      by_cases c2 : T.2 a = c
      · rw [if_pos c2] at kk
        rw [if_pos c2]
        exact kk _ ⟨am_u_same, by show m ≤ 24; omega, fun j hj => by rw [am_u_nq (by omega)]; exact hg j hj⟩ (by omega) (fun o j e1 e2 => (am_u_nq (by omega)).trans (hfr o j e1 e2))
      rw [if_neg c2] at kk
      rw [if_neg c2]
      by_cases c3 : T.2 a = z
      · rw [if_pos c3] at kk
        rw [if_pos c3]
        by_cases c4 : a + 1 < T.1
        · rw [if_pos c4] at kk
          rw [if_pos ((ni_lt (by omega) (by omega)).mpr c4), show (ni (a + 1)).toNatClampNeg = a + 1 from ni_nat (by omega), hT1.2.2 (a + 1) c4]
          exact ⟨ni_in (by omega) (by omega), step (a + 2) _ _ _ _ (by omega) (by omega) kk⟩
        · rw [if_neg c4] at kk
          rw [if_neg (fun z => c4 ((ni_lt (by omega) (by omega)).mp z))]
          exact kk I1 hfr
      · rw [if_neg c3] at kk
        rw [if_neg c3]
        exact step (a + 1) _ _ _ _ (by omega) (by omega) kk
  have kk' : oq (unq w T q i) (∀ I', cTf y I I' → P (.inl (some (.int (-1))), (am_SH, I', J, Pf), 0, 0)) (fun B e => ∀ I', cTx y I' B → e ≤ T.1 → cTf y I I' → P (.inl (some (.int (ni e))), (am_SH, I', J, Pf), 0, 0)) := by
    cases hu : unq w T q i with
    | none => rw [hu] at kk; exact kk
    | some z =>
      rw [hu] at kk
      exact fun I' z1 z2 z3 => kk I' z1 (unq_ok (e := z.2) hTo hu).1 z2 z3
  clear kk
  unfold unq at kk'
  refine am_mth_of rfl rfl (v115_0 hp hx hrs hy ?_)
  rw [if_neg (ni_nonneg (by omega)), hT.1]
  by_cases c1 : T.1 ≤ i
  · rw [if_neg (by omega)] at kk'
    rw [if_pos ((ni_le (by omega) (by omega)).mpr c1)]
    exact kk' I cTf.rfl'
  rw [if_neg (fun z => c1 ((ni_le (by omega) (by omega)).mp z)), show (3 : Int32) = ni 3 from rfl, ni_mul, ni_p1, show ni (q * 3) + 2 = ni (q * 3 + 2) from ni_add (q * 3) 2, show (ni i).toNatClampNeg = i from ni_nat (by omega), show (ni (q * 3)).toNatClampNeg = 3 * q + 0 by rw [ni_nat (by omega)]; omega, show (ni (q * 3 + 1)).toNatClampNeg = 3 * q + 1 by rw [ni_nat (by omega)]; omega, show (ni (q * 3 + 2)).toNatClampNeg = 3 * q + 2 by rw [ni_nat (by omega)]; omega, a0, a1, a2, hT.2.2 i (by omega), ni_p1]
  refine ⟨ni_in (by omega) (by omega), ni_in (by omega) (by omega), ?_⟩
  rw [Nat.add_zero]
  by_cases c2 : T.2 i = w (972 + 5 * q + 2)
  · rw [if_pos ⟨by omega, c2⟩] at kk'
    rw [if_pos c2, show (0 : Int32) = ni 0 from rfl]
    exact ⟨ni_in (by omega) (by omega), ni_in (by omega) (by omega), LP _ _ T.1 (i + 1) 0 _ I _ _ _ _ (by omega) (by omega) (by omega) cTf.rfl' (fun j hj => absurd hj (by omega)) kk'⟩
  · rw [if_neg (fun z => c2 z.2)] at kk'
    rw [if_neg c2]
    exact kk' I cTf.rfl'
theorem rnT_n {a : Nat} (h : a = T.1) : rnT w T a = T.1 := by
  unfold rnT
  rw [show T.1 - a = 0 by omega]
  exact h
theorem rnT_s {a : Nat} (h : a < T.1) : rnT w T a = if blk w T a = true then rnT w T (a + 1) else a := by
  unfold rnT
  rw [show T.1 - a = T.1 - (a + 1) + 1 by omega]
  rfl
theorem sc_runs (hp : am_PF Pf) (hx : am_SH[x]? = some (.inl 9)) (hx112 : 112 ≤ x) (hr : r = 16 ∨ r = 55) (hG : WG w) {I : am_I} (hw : cG r I J w) (hT : cTx x I T) (hTo : txOK T)
    (kk : ∀ I', (∀ a, a ≤ T.1 → I' (x + 2) a = ni (rnT w T a)) → (∀ o k, o ≠ x + 2 → I' o k = I o k) → P (.inl none, (am_SH, I', J, Pf), 0, 0)) : am_mth (d + 2) 116 [.ref x, .ref r] (am_SH, I, J, Pf) P := by
  have hrs := rul_sh hr
  have h24 := hT.2.1
  obtain ⟨⟨-, -, -, -, -, c5⟩, hC, -⟩ := id hw
  have w0' := hG.1.1.2
  have LP : ∀ (m : Nat) (I1 : am_I) (v : Int32) (l3 : Option Value), m ≤ T.1 → v = ni m - 1 → (∀ a, m ≤ a → a ≤ T.1 → I1 (x + 2) a = ni (rnT w T a)) → (∀ o k, o ≠ x + 2 → I1 o k = I o k) → am_go none (d + 1) 116 (20, [some (.ref x), some (.ref r), some (.int v), l3], [], (am_SH, I1, J, Pf), 0, 0) P := by
    intro m
    induction m with
    | zero =>
      intro I1 v l3 hm hv hR hf
      refine v116_20 hp hx hrs ?_
      rw [if_pos (by rw [hv]; decide)]
      exact kk I1 (fun a ha => hR a (Nat.zero_le _) ha) hf
    | succ m ih =>
      intro I1 v l3 hm hv hR hf
      have hv2 : v = ni m := by rw [hv]; exact ni_sub (b := 1) (by omega)
      subst hv2
      have hsm := hTo.sg (i := m) (by omega)
      refine v116_20 hp hx hrs ?_
      rw [if_neg (ni_nonneg (by omega)), hf r 19 (by omega), c5, show (ni m).toNatClampNeg = m from ni_nat (by omega), hf (x + 1) m (by omega), hT.2.2 m (by omega)]
      have nob : blk w T m = false → am_go none (d + 1) 116 (57, [some (.ref x), some (.ref r), some (.int (ni m)), l3], [], (am_SH, I1, J, Pf), 0, 0) P := by
        intro hb
        refine v116_57 hp hx hrs ?_
        rw [show (ni m).toNatClampNeg = m from ni_nat (by omega)]
        refine ⟨ni_in (by omega) (by omega), ih _ _ _ (by omega) (Int32.sub_eq_add_neg _ _).symm (fun a h1 h2 => ?_) (fun o k e => (am_u_nq (by omega)).trans (hf o k e))⟩
        by_cases e : a = m
        · subst e; rw [am_u_same, rnT_s (by omega), if_neg (by rw [hb]; decide)]
        · rw [am_u_nq (by omega)]; exact hR a (by omega) h2
      rcases hG.2.2.2.2.2 with e | ⟨k, hk, e⟩
      · rw [if_pos e]
        exact nob (by unfold blk; rw [e]; rfl)
      · have en : wN w 5 = k := by unfold wN; rw [e]; exact ni_nat (by omega)
        obtain ⟨o1, o2⟩ := cls_obj hp hr (c := k) (by omega)
        have hCc := hC k (by omega)
        rw [e, if_neg (ni_neg1 (by omega)), show (ni k).toNatClampNeg = k from ni_nat (by omega)]
        refine ⟨ni_in (by omega) (by omega), _, o1, o2, ni_in (by omega) (by omega), ?_⟩
        rw [hsm.1]
        refine sp_sg_has (d := d) hp o2 (by omega) (am_back (v116_50 hp hx hrs ?_))
        have eb : sgH (sgD J (cO r + k)) (sgI (T.2 m) + 32) = blk w T m := by
          unfold sgH blk
          rw [decide_eq_true ⟨by omega, by omega⟩, Bool.true_and, Nat.add_sub_cancel, hCc.1 _ hsm.2, en, e, decide_eq_true (ni_neg1 (by omega)), Bool.true_and]
        rw [eb]
        cases hb : blk w T m with
        | false =>
          rw [if_pos (show b2 false = 0 from rfl)]
          exact nob hb
        | true =>
          rw [if_neg (show ¬ b2 true = 0 by decide), show (ni m).toNatClampNeg = m from ni_nat (by omega), ni_p1, show (ni (m + 1)).toNatClampNeg = m + 1 from ni_nat (by omega), hR (m + 1) (by omega) (by omega)]
          refine ⟨ni_in (by omega) (by omega), ni_in (by omega) (by omega), ih _ _ _ (by omega) (Int32.sub_eq_add_neg _ _).symm (fun a h1 h2 => ?_) (fun o k e => (am_u_nq (by omega)).trans (hf o k e))⟩
          by_cases e : a = m
          · subst e; rw [am_u_same, rnT_s (a := a) (by omega), if_pos hb]
          · rw [am_u_nq (by omega)]; exact hR a (by omega) h2
  refine am_mth_of rfl rfl (v116_0 hp hx hrs ?_)
  rw [am_u_nq (by omega), hT.1, show (ni T.1).toNatClampNeg = T.1 from ni_nat (by omega)]
  refine ⟨ni_in (by omega) (by omega), LP T.1 _ _ _ (Nat.le_refl _) rfl (fun a h1 h2 => ?_) (fun o k e => am_u_nq (by omega))⟩
  have : a = T.1 := by omega
  subst this
  rw [am_u_same, rnT_n rfl]
/-- layout passed behind places -/
theorem sc_layb (hp : am_PF Pf) (hx : am_SH[x]? = some (.inl 9)) {I : am_I} (hT : cTx x I T) (hR : ∀ a, a ≤ T.1 → I (x + 2) a = ni (rnT w T a)) {v : Int32} {A : Nat → Prop} (hv : bts v A) (hA : ∀ j, A j → j ≤ T.1)
    (kk : ∀ u, bts u (fun j => ∃ a, A a ∧ j = rnT w T a) → P (.inl (some (.int u)), (am_SH, I, J, Pf), 0, 0)) : am_mth (d + 1) 117 [.ref x, .int v] (am_SH, I, J, Pf) P := by
  have h24 := hT.2.1
  have LP : ∀ (m c : Nat) (u : Int32), T.1 + 1 - c = m → c ≤ T.1 + 1 → bts u (fun j => ∃ a, a < c ∧ A a ∧ j = rnT w T a) → am_go none d 117 (4, [some (.ref x), some (.int v), some (.int u), some (.int (ni c))], [], (am_SH, I, J, Pf), 0, 0) P := by
    intro m
    induction m with
    | zero =>
      intro c u hm hc hu
      have : c = T.1 + 1 := by omega
      subst this
      refine v117_4 hp hx ?_
      rw [hT.1, if_pos ((ni_lt (by omega) (by omega)).mpr (by omega))]
      exact kk u (hu.of (fun j _ => ⟨fun ⟨a, _, z⟩ => ⟨a, z⟩, fun ⟨a, z1, z2⟩ => ⟨a, by have := hA a z1; omega, z1, z2⟩⟩))
    | succ m ih =>
      intro c u hm hc hu
      refine v117_4 hp hx ?_
      rw [hT.1, if_neg (fun z => absurd ((ni_lt (by omega) (by omega)).mp z) (by omega)), show (ni c).toNatClampNeg = c from ni_nat (by omega), ni_p1]
      by_cases cc : A c
      · rw [if_neg (fun z => (bts_us hv (by omega)).mp z cc), hR c (by omega)]
        have := rnT_le (w := w) (T := T) (a := c) (by omega)
        refine ⟨ni_in (by omega) (by omega), ih (c + 1) _ (by omega) (by omega) ((bts_or hu (bts_one (by omega))).of (fun j _ => ?_))⟩
        constructor
        · rintro (⟨a, z1, z2, z3⟩ | z)
          · exact ⟨a, by omega, z2, z3⟩
          · exact ⟨c, by omega, cc, z⟩
        · rintro ⟨a, z1, z2, z3⟩
          by_cases e : a = c
          · subst e; exact Or.inr z3
          · exact Or.inl ⟨a, by omega, z2, z3⟩
      · rw [if_pos ((bts_us hv (by omega)).mpr cc)]
        refine ih (c + 1) _ (by omega) (by omega) (hu.of (fun j _ => ⟨fun ⟨a, z1, z2⟩ => ⟨a, by omega, z2⟩, fun ⟨a, z1, z2, z3⟩ => ?_⟩))
        by_cases e : a = c
        · subst e; exact absurd z2 cc
        · exact ⟨a, by omega, z2, z3⟩
  refine am_mth_of rfl rfl (v117_0 hp hx ?_)
  rw [show (0 : Int32) = ni 0 from rfl]
  exact LP _ 0 _ rfl (Nat.zero_le _) (bts_0 (fun j _ ⟨a, z, _⟩ => by omega))
/-- a table tells which pieces from i on are of a sort -/
def cFi (x : Nat) (I : am_I) (n : Nat) (H : Nat → Nat → Nat → Nat) (i : Nat) : Prop := ∀ s, s < 8 → bts (I (x + 3) (25 * s + i)) (fun j => i ≤ j ∧ j ≤ n ∧ 0 < H s i j)
theorem cFi.of {x : Nat} {I I' : am_I} {n : Nat} {H : Nat → Nat → Nat → Nat} {i : Nat} (h : cFi x I n H i) (e : ∀ s, s < 8 → I' (x + 3) (25 * s + i) = I (x + 3) (25 * s + i)) : cFi x I' n H i := fun s hs => by rw [e s hs]; exact h s hs
theorem sc_whole (hp : am_PF Pf) (hx : am_SH[x]? = some (.inl 9)) {I : am_I} {H : Nat → Nat → Nat → Nat} (hT : cTx x I T) (hF : cFi x I T.1 H 0)
    (kk : ∀ u, bts u (fun s => s < 8 ∧ 0 < H s 0 T.1) → P (.inl (some (.int u)), (am_SH, I, J, Pf), 0, 0)) : am_mth (d + 2) 119 [.ref x] (am_SH, I, J, Pf) P := by
  have h24 := hT.2.1
  have LP : ∀ (m c : Nat) (u : Int32), 8 - c = m → c ≤ 8 → bts u (fun s => s < c ∧ 0 < H s 0 T.1) → am_go none (d + 1) 119 (4, [some (.ref x), some (.int u), some (.int (ni c))], [], (am_SH, I, J, Pf), 0, 0) P := by
    intro m
    induction m with
    | zero =>
      intro c u hm hc hu
      have : c = 8 := by omega
      subst this
      refine v119_4 hp hx ?_
      rw [if_pos ((gle 8 (by omega) (by omega)).mpr (by omega))]
      exact kk u hu
    | succ m ih =>
      intro c u hm hc hu
      have hc2 := hF c (by omega)
      refine v119_4 hp hx ?_
      rw [if_neg (fun z => absurd ((gle 8 (by omega) (by omega)).mp z) (by omega)), show (25 : Int32) = ni 25 from rfl, ni_mul, show ni (c * 25) + 0 = ni (c * 25 + 0) from ni_add (c * 25) 0, show (ni (c * 25 + 0)).toNatClampNeg = 25 * c + 0 by rw [ni_nat (by omega)]; omega, hT.1, ni_p1]
      refine ⟨ni_in (by omega) (by omega), ?_⟩
      by_cases cc : 0 < H c 0 T.1
      · rw [if_neg (fun z => (bts_us hc2 (by omega)).mp z ⟨Nat.zero_le _, Nat.le_refl _, cc⟩)]
        refine ih (c + 1) _ (by omega) (by omega) ((bts_or hu (bts_one (by omega))).of (fun j _ => ?_))
        constructor
        · rintro (⟨z1, z2⟩ | z)
          · exact ⟨by omega, z2⟩
          · subst z; exact ⟨by omega, cc⟩
        · rintro ⟨z1, z2⟩
          by_cases e : j = c
          · exact Or.inr e
          · exact Or.inl ⟨by omega, z2⟩
      · rw [if_pos ((bts_us hc2 (by omega)).mpr (fun z => cc z.2.2))]
        refine ih (c + 1) _ (by omega) (by omega) (hu.of (fun j _ => ⟨fun ⟨z1, z2⟩ => ⟨by omega, z2⟩, fun ⟨z1, z2⟩ => ?_⟩))
        by_cases e : j = c
        · subst e; exact absurd z2 cc
        · exact ⟨by omega, z2⟩
  refine am_mth_of rfl rfl (v119_0 hp hx ?_)
  rw [show (0 : Int32) = ni 0 from rfl]
  exact LP _ 0 _ rfl (Nat.zero_le _) (bts_0 (fun j _ z => by omega))
end TBC
