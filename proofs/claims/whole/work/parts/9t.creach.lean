/-! The class's finder: one part, one production -/
/-- the finder goes by the rules r -/
def cFn (Pf : am_R) (r : Nat) : Prop := Pf 112 0 = some r ∧ Pf 112 1 = some (r + 15)
theorem sor_sh {r : Nat} (hr : r = 16 ∨ r = 55) : am_SH[r + 15]? = some (.inl 7) := by rcases hr with rfl | rfl <;> rfl
/-- a row of sets of ends, of pieces from b on -/
def cRw (o : Nat) (I : am_I) (n : Nat) (S : Nat → Nat → Nat → Prop) (b : Nat) : Prop := ∀ t, t < 8 → bts (I o (25 * t + b)) (fun e => b ≤ e ∧ e ≤ n ∧ S t b e)
theorem cRw.of {o n b : Nat} {I I' : am_I} {S : Nat → Nat → Nat → Prop} (h : cRw o I n S b) (e : ∀ t, t < 8 → I' o (25 * t + b) = I o (25 * t + b)) : cRw o I' n S b := fun t ht => by rw [e t ht]; exact h t ht
theorem us1 {v : Int32} {j : Nat} (hj : j < 32) (h : bI v j = true) : (UInt32.toInt32 (Int32.toUInt32 v >>> (Int32.toUInt32 (ni j) &&& Int32.toUInt32 31))) &&& 1 = 1 := by
  have n0 : ¬ ((UInt32.toInt32 (Int32.toUInt32 v >>> (Int32.toUInt32 (ni j) &&& Int32.toUInt32 31))) &&& 1 = 0) := fun z => (bI_us hj).mp z h
  generalize UInt32.toInt32 (Int32.toUInt32 v >>> (Int32.toUInt32 (ni j) &&& Int32.toUInt32 31)) = y at *
  refine bI_ext (fun k hk => ?_)
  have b1 : bI 1 k = decide (k = 0) := by
    have := bI_one (j := 0) (k := k) (by omega) hk
    rw [show (1 : Int32) <<< (ni 0 &&& 31) = 1 from by decide] at this
    exact this
  rw [bI_and, b1]
  by_cases c : k = 0
  · subst c
    cases e : bI y 0 with
    | true => rfl
    | false =>
      refine absurd (bI_ext (fun k hk => ?_)) n0
      have b1 : bI 1 k = decide (k = 0) := by
        have := bI_one (j := 0) (k := k) (by omega) hk
        rw [show (1 : Int32) <<< (ni 0 &&& 31) = 1 from by decide] at this
        exact this
      rw [bI_and, b1, bI_0]
      by_cases c2 : k = 0
      · subst c2; rw [e]; rfl
      · rw [decide_eq_false c2, Bool.and_false]
  · rw [decide_eq_false c, Bool.and_false]
section FND
variable {d x : Nat} {P : am_O → Prop} {J : am_J} {Pf : am_R} {T : TX} {w : Nat → Int32} {r : Nat}
theorem sc_pends (hp : am_PF Pf) (hx : am_SH[x]? = some (.inl 9)) (hr : r = 16 ∨ r = 55) (hF : cFn Pf r) (hG : WG w) {I : am_I} (hw : cG r I J w) (hc : clsR r I w) (hT : cTx x I T) (hTo : txOK T) {x4 Lx4 : Nat} (h4 : am_SH[x4]? = some (.inr (0, Lx4))) (hL : 200 ≤ Lx4) {p k b : Nat} (hpp : p < wN w 1) (hk : k < wN w (32 + 3 * p + 2)) (hb : b ≤ T.1) {S : Nat → Nat → Nat → Prop} (hS : w (eP p k) = 1 → cRw x4 I T.1 S b)
    (kk : ∀ u, bts u (prE w T S p k b) → P (.inl (some (.int u)), (am_SH, I, J, Pf), 0, 0)) : am_mth (d + 1) 16 [.ref 112, .ref x, .int (ni (4 * p + k)), .int (ni b), .ref x4] (am_SH, I, J, Pf) P := by
  have h24 := hT.2.1
  have w0' := hG.1.1.2
  have w1' := hG.1.2.1.2
  have hrs := rul_sh hr
  obtain ⟨-, -, hc4, -, -, g6⟩ := hG.pr hpp
  obtain ⟨e1, e2, e3⟩ := (hw.2.2.1 p hpp).2.2.2 k hk
  have bin : am_in (ni (4 * p + k)) 80 = true := ni_in (by omega) (by omega)
  refine am_mth_of rfl rfl (v16_0 hp hx h4 ?_)
  rw [show (ni (4 * p + k)).toNatClampNeg = 4 * p + k from ni_nat (by omega), show (25 : Int32) = ni 25 from rfl]
  refine ⟨r, hF.1, hrs, ?_⟩
  rw [e1]
  refine ⟨bin, bin, ?_⟩
  rcases g6 k hk with ⟨t1, c, t2, t3⟩ | ⟨t1, s, t2, t3⟩ | ⟨t1, mm, t2, t3, t4, t5⟩
  · have en : wN w (eP p k + 1) = c := by unfold wN; rw [t3]; exact ni_nat (by omega)
    rw [if_neg (by rw [t1]; decide), if_pos t1, hT.1]
    refine ⟨bin, ?_⟩
    by_cases c1 : b < T.1
    · have hsm := hTo.sg (i := b) c1
      rw [if_pos ((ni_lt (by omega) (by omega)).mpr c1), e2 (by rw [t1]; decide), t3, show (ni b).toNatClampNeg = b from ni_nat (by omega), hT.2.2 b c1, hsm.1, show (ni (sgI (T.2 b) + 32)).toNatClampNeg = sgI (T.2 b) + 32 from ni_nat (by omega), ni_p1]
      refine ⟨r + 15, hF.2, sor_sh hr, ni_in (by omega) (by omega), ni_in (by omega) (by omega), ?_⟩
      have hbit := hc (sgI (T.2 b)) hsm.2 c (by omega)
      rw [decide_eq_true (show c < wN w 0 by omega), Bool.true_and] at hbit
      rw [show r + 15 + 7 = r + 22 from rfl]
      cases hcc : wCls w c (sgI (T.2 b)) with
      | true =>
        rw [us1 (by omega) (by rw [hbit]; exact hcc)]
        refine kk _ ((bts_one (by omega)).of (fun j hj => ?_))
        constructor
        · rintro rfl
          exact Or.inl ⟨t1, rfl, c1, by rw [en]; exact hcc⟩
        · rintro (z | z | z)
          · exact z.2.1
          · have := z.1; rw [t1] at this; cases this
          · have := z.1; rw [t1] at this; cases this
      | false =>
        rw [(bI_us (by omega)).mpr (by rw [hbit, hcc]; decide), show (0 : Int32) <<< (ni (b + 1) &&& 31) = 0 from Int32.zero_shiftLeft]
        refine kk _ (bts_0 (fun j hj z => ?_))
        rcases z with z | z | z
        · have := z.2.2.2; rw [en, hcc] at this; cases this
        · have := z.1; rw [t1] at this; cases this
        · have := z.1; rw [t1] at this; cases this
    · rw [if_neg (fun z => c1 ((ni_lt (by omega) (by omega)).mp z))]
      refine kk _ (bts_0 (fun j hj z => ?_))
      rcases z with z | z | z
      · exact c1 z.2.2.1
      · have := z.1; rw [t1] at this; cases this
      · have := z.1; rw [t1] at this; cases this
  · have en : wN w (eP p k + 1) = s := by unfold wN; rw [t3]; exact ni_nat (by omega)
    rw [if_pos t1, e2 (by rw [t1]; decide), t3, ni_mul, ni_add, show (ni (s * 25 + b)).toNatClampNeg = 25 * s + b by rw [ni_nat (by omega)]; omega]
    refine ⟨ni_in (by omega) (by omega), kk _ ((hS t1 s t2).of (fun j hj => ?_))⟩
    constructor
    · rintro ⟨z1, z2, z3⟩
      exact Or.inr (Or.inl ⟨t1, z1, z2, by rw [en]; exact z3⟩)
    · rintro (z | z | z)
      · have := z.1; rw [t1] at this; cases this
      · exact ⟨z.2.1, z.2.2.1, by rw [← en]; exact z.2.2.2⟩
      · have := z.1; rw [t1] at this; cases this
  · have en : wN w (eP p k + 2) = mm := by unfold wN; rw [t4]; exact ni_nat (by omega)
    obtain ⟨e4, e5⟩ := e3 t1
    rw [en] at e5
    rw [if_neg (by rw [t1]; decide), if_neg (by rw [t1]; decide), e4, t4, ni_add, hT.1]
    refine ⟨bin, ?_⟩
    by_cases c1 : b + mm ≤ T.1
    · rw [if_pos ((ni_le (by omega) (by omega)).mpr c1)]
      have LP : ∀ (m c : Nat), mm - c = m → c ≤ mm → (∀ i, i < c → T.2 (b + i) = w (eP p k + 3 + i)) → am_go none d 16 (97, [some (.ref 112), some (.ref x), some (.int (ni (4 * p + k))), some (.int (ni b)), some (.ref x4), some (.int (ni mm)), some (.int (ni c))], [], (am_SH, I, J, Pf), 0, 0) P := by
        intro m
        induction m with
        | zero =>
          intro c hm hc hh
          have : c = mm := by omega
          subst this
          refine v16_97 hp hx ?_
          rw [if_pos ((ni_le (by omega) (by omega)).mpr (Nat.le_refl _)), ni_add]
          refine kk _ ((bts_one (by omega)).of (fun j hj => ?_))
          constructor
          · rintro rfl
            exact Or.inr (Or.inr ⟨t1, by rw [en], c1, fun i hi => hh i (by omega)⟩)
          · rintro (z | z | z)
            · have := z.1; rw [t1] at this; cases this
            · have := z.1; rw [t1] at this; cases this
            · rw [z.2.1, en]
        | succ m ih =>
          intro c hm hc hh
          refine v16_97 hp hx ?_
          rw [if_neg (fun z => absurd ((ni_le (by omega) (by omega)).mp z) (by omega)), ni_add, show (8 : Int32) = ni 8 from rfl, ni_mul, ni_add, show (ni (b + c)).toNatClampNeg = b + c from ni_nat (by omega), show (ni ((4 * p + k) * 8 + c)).toNatClampNeg = 8 * (4 * p + k) + c by rw [ni_nat (by omega)]; omega, hT.2.2 (b + c) (by omega), ni_p1]
          refine ⟨ni_in (by omega) (by omega), r, hF.1, hrs, ni_in (by omega) (by omega), ?_⟩
          rw [e5 c (by omega)]
          by_cases c2 : T.2 (b + c) = w (eP p k + 3 + c)
          · rw [if_pos c2]
            refine ih (c + 1) (by omega) (by omega) (fun i hi => ?_)
            by_cases e : i = c
            · subst e; exact c2
            · exact hh i (by omega)
          · rw [if_neg c2]
            refine kk _ (bts_0 (fun j hj z => ?_))
            rcases z with z | z | z
            · have := z.1; rw [t1] at this; cases this
            · have := z.1; rw [t1] at this; cases this
            · exact c2 (z.2.2.2 c (by omega))
      rw [show (0 : Int32) = ni 0 from rfl]
      exact LP _ 0 rfl (Nat.zero_le _) (fun i hi => absurd hi (by omega))
    · rw [if_neg (fun z => c1 ((ni_le (by omega) (by omega)).mp z))]
      refine kk _ (bts_0 (fun j hj z => ?_))
      rcases z with z | z | z
      · have := z.1; rw [t1] at this; cases this
      · have := z.1; rw [t1] at this; cases this
      · have := z.2.1; have := z.2.2.1; omega
theorem rch_no {S : Nat → Nat → Nat → Prop} {p i k : Nat} (h : ∀ j, ¬ rch w T S p i k j) : ∀ m j, ¬ rch w T S p i (k + m) j
  | 0, j => h j
  | m + 1, j => fun ⟨a, z1, _⟩ => rch_no h m a z1
/-- where a production can end -/
theorem sc_reach (hp : am_PF Pf) (hx : am_SH[x]? = some (.inl 9)) (hr : r = 16 ∨ r = 55) (hF : cFn Pf r) (hG : WG w) {I : am_I} (hw : cG r I J w) (hc : clsR r I w) (hT : cTx x I T) (hTo : txOK T) (hR : ∀ a, a ≤ T.1 → I (x + 2) a = ni (rnT w T a)) {x4 Lx4 : Nat} (h4 : am_SH[x4]? = some (.inr (0, Lx4))) (hL : 200 ≤ Lx4) {p i : Nat} (hpp : p < wN w 1) (hi : i ≤ T.1) {S : Nat → Nat → Nat → Prop} (hS : ∀ k, k < wN w (32 + 3 * p + 2) → w (eP p k) = 1 → ∀ b, i ≤ b → b ≤ T.1 → cRw x4 I T.1 S b)
    (kk : ∀ u, bts u (rch w T S p i (wN w (32 + 3 * p + 2))) → P (.inl (some (.int u)), (am_SH, I, J, Pf), 0, 0)) : am_mth (d + 2) 15 [.ref 112, .ref x, .int (ni p), .int (ni i), .ref x4] (am_SH, I, J, Pf) P := by
  have h24 := hT.2.1
  have w1' := hG.1.2.1.2
  have hrs := rul_sh hr
  obtain ⟨-, -, hc4, hce, g4, g6⟩ := hG.pr hpp
  obtain ⟨q1, q2, q3, -⟩ := hw.2.2.1 p hpp
  have LB : ∀ (m k b : Nat) (u nx : Int32), T.1 + 1 - b = m → i ≤ b → b ≤ T.1 + 1 → k < wN w (32 + 3 * p + 2) → bts u (fun b => ∃ a, rch w T S p i k a ∧ b = bgW w T p k a) → bts nx (fun j => ∃ a, rch w T S p i k a ∧ bgW w T p k a < b ∧ prE w T S p k (bgW w T p k a) j) → (∀ v l7 l8, bts v (rch w T S p i (k + 1)) → am_go none (d + 1) 15 (8, [some (.ref 112), some (.ref x), some (.int (ni p)), some (.int (ni i)), some (.ref x4), some (.int v), some (.int (ni (k + 1))), l7, l8], [], (am_SH, I, J, Pf), 0, 0) P) → am_go none (d + 1) 15 (58, [some (.ref 112), some (.ref x), some (.int (ni p)), some (.int (ni i)), some (.ref x4), some (.int u), some (.int (ni k)), some (.int nx), some (.int (ni b))], [], (am_SH, I, J, Pf), 0, 0) P := by
    intro m
    induction m with
    | zero =>
      intro k b u nx hm hib hb hk hu hn kk
      have : b = T.1 + 1 := by omega
      subst this
      refine v15_58 hp hx h4 ?_
      rw [hT.1, if_pos ((ni_lt (by omega) (by omega)).mpr (by omega)), ni_p1]
      refine kk nx _ _ (hn.of (fun j _ => ?_))
      constructor
      · rintro ⟨a, z1, z2, z3⟩; exact ⟨a, z1, z3⟩
      · rintro ⟨a, z1, z2⟩
        have := rch_le hG hi k a z1
        have := bgW_le (w := w) (p := p) (k := k) this.2
        exact ⟨a, z1, by omega, z2⟩
    | succ m ih =>
      intro k b u nx hm hib hb hk hu hn kk
      refine v15_58 hp hx h4 ?_
      rw [hT.1, if_neg (fun z => absurd ((ni_lt (by omega) (by omega)).mp z) (by omega))]
      by_cases c : ∃ a, rch w T S p i k a ∧ b = bgW w T p k a
      · rw [if_neg (fun z => (bts_us hu (by omega)).mp z c), show (4 : Int32) = ni 4 from rfl, ni_mul, ni_add, Nat.mul_comm p 4]
        refine sc_pends (d := d) hp hx hr hF hG hw hc hT hTo h4 hL hpp hk (by omega) (fun e => hS k hk e b hib (by omega)) (fun v hv => am_back (v15_94 hp hx h4 ?_))
        rw [ni_p1]
        refine ih k (b + 1) u _ (by omega) (by omega) (by omega) hk hu ((bts_or hn hv).of (fun j _ => ?_)) kk
        constructor
        · rintro (⟨a, z1, z2, z3⟩ | z)
          · exact ⟨a, z1, by omega, z3⟩
          · obtain ⟨a, y1, y2⟩ := c
            exact ⟨a, y1, by omega, by rw [← y2]; exact z⟩
        · rintro ⟨a, z1, z2, z3⟩
          by_cases e : bgW w T p k a = b
          · rw [e] at z3; exact Or.inr z3
          · exact Or.inl ⟨a, z1, by omega, z3⟩
      · rw [if_pos ((bts_us hu (by omega)).mpr c), ni_p1]
        refine ih k (b + 1) u nx (by omega) (by omega) (by omega) hk hu (hn.of (fun j _ => ?_)) kk
        constructor
        · rintro ⟨a, z1, z2, z3⟩; exact ⟨a, z1, by omega, z3⟩
        · rintro ⟨a, z1, z2, z3⟩
          by_cases e : bgW w T p k a = b
          · exact absurd ⟨a, z1, e.symm⟩ c
          · exact ⟨a, z1, by omega, z3⟩
  have LK : ∀ (m k : Nat) (u : Int32) (l7 l8 : Option Value), wN w (32 + 3 * p + 2) - k = m → k ≤ wN w (32 + 3 * p + 2) → bts u (rch w T S p i k) → am_go none (d + 1) 15 (8, [some (.ref 112), some (.ref x), some (.int (ni p)), some (.int (ni i)), some (.ref x4), some (.int u), some (.int (ni k)), l7, l8], [], (am_SH, I, J, Pf), 0, 0) P := by
    intro m
    induction m with
    | zero =>
      intro k u l7 l8 hm hk hu
      have : k = wN w (32 + 3 * p + 2) := by omega
      subst this
      refine v15_8 hp hx h4 ?_
      rw [show (ni p).toNatClampNeg = p from ni_nat (by omega)]
      refine ⟨r, hF.1, hrs, ni_in (by omega) (by omega), ?_⟩
      rw [q3, hce, if_pos ((ni_le (by omega) (by omega)).mpr (Nat.le_refl _))]
      exact kk u hu
    | succ m ih =>
      intro k u l7 l8 hm hk hu
      refine v15_8 hp hx h4 ?_
      rw [show (ni p).toNatClampNeg = p from ni_nat (by omega)]
      refine ⟨r, hF.1, hrs, ni_in (by omega) (by omega), ?_⟩
      rw [q3, hce, if_neg (fun z => absurd ((ni_le (by omega) (by omega)).mp z) (by omega))]
      by_cases c0 : u = 0
      · rw [if_pos c0]
        have hno : ∀ j, ¬ rch w T S p i k j := fun j z => by
          have := rch_le hG hi k j z
          exact (bts_z hu).mp c0 j (by omega) z
        refine kk u ?_
        rw [c0]
        refine bts_0 (fun j _ z => rch_no hno (wN w (32 + 3 * p + 2) - k) j ?_)
        rw [show k + (wN w (32 + 3 * p + 2) - k) = wN w (32 + 3 * p + 2) by omega]
        exact z
      rw [if_neg c0]
      have GO : ∀ (v : Int32), bts v (fun b => ∃ a, rch w T S p i k a ∧ b = bgW w T p k a) → am_go none (d + 1) 15 (52, [some (.ref 112), some (.ref x), some (.int (ni p)), some (.int (ni i)), some (.ref x4), some (.int v), some (.int (ni k)), l7, l8], [], (am_SH, I, J, Pf), 0, 0) P := by
        intro v hv
        refine v15_52 hp hx h4 ?_
        refine LB _ k i v 0 rfl (Nat.le_refl _) (by omega) (by omega) hv (bts_0 (fun j _ ⟨a, z1, z2, _⟩ => ?_)) (fun v2 l7 l8 hv2 => ih (k + 1) v2 l7 l8 (by omega) (by omega) hv2)
        have := rch_le hG hi k a z1
        have := bgW_le (w := w) (p := p) (k := k) this.2
        omega
      by_cases ck : k = 0
      · rw [if_pos ((lle 0 (by omega) (by omega)).mpr (by omega))]
        refine GO u (hu.of (fun j _ => ?_))
        unfold bgW
        rw [ck]
        constructor
        · intro z; exact ⟨j, z, by rw [if_pos (Or.inl rfl)]⟩
        · rintro ⟨a, z1, z2⟩
          rw [if_pos (Or.inl rfl)] at z2
          rw [z2]; exact z1
      · rw [if_neg (fun z => absurd ((lle 0 (by omega) (by omega)).mp z) (by omega))]
        refine ⟨ni_in (by omega) (by omega), ?_⟩
        rw [q2]
        by_cases cr : w (32 + 3 * p + 1) = 0
        · rw [if_pos cr]
          refine GO u (hu.of (fun j _ => ?_))
          unfold bgW
          constructor
          · intro z; exact ⟨j, z, by rw [if_pos (Or.inr cr)]⟩
          · rintro ⟨a, z1, z2⟩
            rw [if_pos (Or.inr cr)] at z2
            rw [z2]; exact z1
        · rw [if_neg cr]
          refine sc_layb (d := d) (w := w) hp hx hT hR hu (fun j z => (rch_le hG hi k j z).2) (fun v hv => am_back (v15_50 hp hx h4 (GO v (hv.of (fun j _ => ?_)))))
          unfold bgW
          constructor
          · rintro ⟨a, z1, z2⟩; exact ⟨a, z1, by rw [if_neg (fun z => z.elim ck cr)]; exact z2⟩
          · rintro ⟨a, z1, z2⟩
            rw [if_neg (fun z => z.elim ck cr)] at z2
            exact ⟨a, z1, z2⟩
  refine am_mth_of rfl rfl (v15_0 hp hx h4 ?_)
  rw [show (0 : Int32) = ni 0 from rfl]
  exact LK _ 0 _ _ _ rfl (Nat.zero_le _) ((bts_one (by omega)).of (fun j _ => Iff.rfl))
end FND
