/-! Which signs fit: the model; the class's answer -/
noncomputable def fitF (w : Nat → Int32) (T : TX) (s pl : Nat) : Nat → Bool := fun x => decide (0 < HHx w 3 (T.1, fu T.2 pl (ni (32 + x))) s 0 T.1)
noncomputable def fcK (w : Nat → Int32) (f : Nat → Bool) : Nat → Nat → Int32
  | 0, _ => -1
  | m + 1, k => cif (∀ x, x < 95 → wCls w k x = f x) (ni k) (fcK w f m (k + 1))
noncomputable def aFt (w : Nat → Int32) (T : TX) (s pl c : Nat) : Int32 := if c = 0 then ni (cntN (fitF w T s pl) 95) else if c = 1 then lsP (fitF w T s pl) 95 else if cntN (fitF w T s pl) 95 = 0 then -1 else fcK w (fitF w T s pl) (wN w 0) 0
/-- a place, a sort, what is asked -/
noncomputable def qFt (n : Nat) (f : Nat → Nat → Nat → Int32) (x1 x2 x3 : Int32) : Sum Nat Int32 := cif (inC x2 n) (cif (inW x1 7 ∧ inW x3 2) (.inr (f x1.toNatClampNeg x2.toNatClampNeg x3.toNatClampNeg)) (.inl 1)) (.inl 0)
theorem qFt_t {n s a c : Nat} {f : Nat → Nat → Nat → Int32} (h1 : a < n) (hn : n < 2147483648) (h7 : s ≤ 7) (h2 : c ≤ 2) : qFt n f (ni s) (ni a) (ni c) = .inr (f s a c) := by
  unfold qFt
  rw [cif_t ⟨a, rfl, h1⟩, cif_t ⟨⟨s, rfl, h7⟩, ⟨c, rfl, h2⟩⟩, ni_nat (by omega), ni_nat (by omega), ni_nat (by omega)]
theorem qFt_1 {n : Nat} {f : Nat → Nat → Nat → Int32} {x1 x2 x3 : Int32} (h : inC x2 n) (h2 : ¬ (inW x1 7 ∧ inW x3 2)) : qFt n f x1 x2 x3 = .inl 1 := by
  unfold qFt
  rw [cif_t h, cif_f h2]
theorem qFt_0 {n : Nat} {f : Nat → Nat → Nat → Int32} {x1 x2 x3 : Int32} (h : ¬ inC x2 n) : qFt n f x1 x2 x3 = .inl 0 := cif_f h
theorem cnt_0 {f : Nat → Bool} : ∀ n, cntN f n = 0 → ∀ i, i < n → f i = false
  | 0, _, i, h => absurd h (by omega)
  | n + 1, h, i, hi => by
    have h' : cntN f n + (if f n = true then 1 else 0) = 0 := h
    by_cases e : i = n
    · subst e
      cases hf : f i with
      | true => rw [hf, if_pos rfl] at h'; omega
      | false => rfl
    · exact cnt_0 n (by omega) i (by omega)
theorem cnt_le {f : Nat → Bool} : ∀ n, cntN f n ≤ n
  | 0 => Nat.le_refl _
  | n + 1 => by
    have := cnt_le (f := f) n
    show cntN f n + (if f n = true then 1 else 0) ≤ n + 1
    split <;> omega
/-- twins: signs that the grammar can't tell apart -/
def twQ (w : Nat → Int32) (t x : Nat) : Prop := (∀ c, c < wN w 0 → wCls w c t = wCls w c x) ∧ nmS w t = false ∧ nmS w x = false
theorem sgI_32 {x : Nat} (h : x < 95) : sgI (ni (32 + x)) = x := by
  unfold sgI
  rw [ni_nat (by omega)]
  omega
theorem twQ.sg {w : Nat → Int32} {t x : Nat} (h : twQ w t x) (ht : t < 95) (hx : x < 95) : sgQ w (ni (32 + t)) (ni (32 + x)) := by
  unfold sgQ
  rw [sgI_32 ht, sgI_32 hx, show t + 32 = 32 + t by omega, show x + 32 = 32 + x by omega]
  exact Or.inr ⟨h.1, ⟨by omega, rfl, h.2.1⟩, ⟨by omega, rfl, h.2.2⟩⟩
theorem txQ.put {w : Nat → Int32} {T : TX} {pl : Nat} {u v : Int32} (h : sgQ w u v) : txQ w 0 (T.1, fu T.2 pl u) (T.1, fu T.2 pl v) := by
  refine ⟨rfl, fun i _ _ => ?_⟩
  show sgQ w (fu T.2 pl u i) (fu T.2 pl v i)
  unfold fu
  split
  · exact h
  · exact Or.inl rfl
theorem txQ.off {w : Nat → Int32} {T : TX} {pl : Nat} {u v : Int32} : txQ w (pl + 1) (T.1, fu T.2 pl u) (T.1, fu T.2 pl v) := by
  refine ⟨rfl, fun i hi _ => ?_⟩
  show sgQ w (fu T.2 pl u i) (fu T.2 pl v i)
  unfold fu
  rw [if_neg (by omega), if_neg (by omega)]
  exact Or.inl rfl
theorem fit_tw {w : Nat → Int32} (hG : WG w) (hs : sndW w) {T : TX} {s pl t x : Nat} (h8 : s < 8) (h : twQ w t x) (ht : t < 95) (hx : x < 95) : fitF w T s pl t = fitF w T s pl x := by
  unfold fitF
  rw [(HHx_tr hG hs 3 0 _ _ (txQ.put (T := T) (pl := pl) (h.sg ht hx))).1 s 0 T.1 h8 (Nat.le_refl _) (Nat.zero_le _) (Nat.le_refl _)]
/-- rows of a table, for a text that is alike behind a place -/
theorem cTr.tr {x k m i : Nat} {I : am_I} {w : Nat → Int32} {T U : TX} (hG : WG w) (hs : sndW w) (h : cTr x I w k T i) (hq : txQ w m T U) (hm : m ≤ i) : cTr x I w k U i := by
  obtain ⟨h1, h2⟩ := HHx_tr hG hs k m T U hq
  obtain ⟨g1, g2⟩ := h
  refine ⟨fun t ht => (g1 t ht).of (fun e he => ?_), fun q hq2 => ?_⟩
  · unfold pos
    constructor
    · rintro ⟨z1, z2, z3⟩
      refine ⟨z1, by rw [← hq.1]; exact z2, ?_⟩
      rw [← h1 t i e ht hm z1 z2]; exact z3
    · rintro ⟨z1, z2, z3⟩
      have z2' : e ≤ T.1 := by rw [hq.1]; exact z2
      refine ⟨z1, z2', ?_⟩
      rw [h1 t i e ht hm z1 z2']; exact z3
  · rcases g2 q hq2 with ⟨e, e1, e2, e3, e4⟩ | ⟨e3, e4⟩
    · exact Or.inl ⟨e, e1, by rw [← hq.1]; exact e2, e3, fun e' => (h2 q i e' hq2 hm).symm.trans (e4 e')⟩
    · exact Or.inr ⟨e3, fun e' z => e4 e' ((h2 q i e' hq2 hm).mpr z)⟩
section FTC
variable {P : am_O → Prop} {Pf : am_R} {T : TX} {w : Nat → Int32} {r : Nat}
theorem sc_twin (hp : am_PF Pf) (hr : r = 16 ∨ r = 55) (hG : WG w) {I : am_I} {J : am_J} (hS : cSo r I J w) {x : Nat} (hx : x < 95) {d : Nat} (kk : ∀ t, t ≤ x → (t = x ∨ twQ w t x) → P (.inl (some (.int (ni (32 + t)))), (am_SH, I, J, Pf), 0, 0)) : am_mth (d + 2) 98 [.ref (r + 15), .int (ni (32 + x))] (am_SH, I, J, Pf) P := by
  have w0' := hG.1.1.2
  obtain ⟨-, -, -, -, ⟨hN, hNT⟩, hC⟩ := hS
  have h15 : am_SH[r + 15]? = some (.inl 7) := by rcases hr with rfl | rfl <;> rfl
  have h21 : am_SH[r + 15 + 6]? = some (.inl 6) := by rcases hr with rfl | rfl <;> rfl
  have hNm : ∀ k, k < 95 → sgH (sgD J (r + 15 + 6)) (32 + k) = nmS w k := fun k hk => sgH_f (f := nmS w) (fun k hk => hN k hk) hk
  have hrow : ∀ t, t < 95 → ∀ u, u < 95 → I (r + 15 + 7) (32 + t) = I (r + 15 + 7) (32 + u) → ∀ c, c < wN w 0 → wCls w c t = wCls w c u := by
    intro t ht u hu e c hc
    have e1 := hC t ht c (by omega)
    have e2 := hC u hu c (by omega)
    rw [show t + 32 = 32 + t by omega, decide_eq_true hc, Bool.true_and] at e1
    rw [show u + 32 = 32 + u by omega, decide_eq_true hc, Bool.true_and] at e2
    have e' : I (r + 22) (32 + t) = I (r + 22) (32 + u) := e
    rw [← e1, ← e2, e']
  refine am_mth_of rfl rfl (v98_0 hp h15 ?_)
  rw [if_neg (fun z => absurd ((llt 32 (by omega) (by omega)).mp z) (by omega)), if_neg (fun z => absurd ((glt 126 (by omega) (by omega)).mp z) (by omega))]
  refine sp_sg_has hp h21 (by omega) (am_back (v98_15 hp h15 ?_))
  rw [hNm x hx]
  cases hnx : nmS w x with
  | true =>
    rw [show b2 true = 1 from rfl, if_neg (by decide)]
    exact kk x (Nat.le_refl _) (Or.inl rfl)
  | false =>
    rw [show b2 false = 0 from rfl, if_pos rfl]
    have LP : ∀ (m t : Nat), x - t = m → t ≤ x → am_go none (d + 1) 98 (23, [some (.ref (r + 15)), some (.int (ni (32 + x))), some (.int (ni (32 + t)))], [], (am_SH, I, J, Pf), 0, 0) P := by
      intro m
      induction m with
      | zero =>
        intro t hm ht
        obtain rfl : t = x := by omega
        refine v98_23 hp h15 ?_
        rw [if_pos ((ni_le (by omega) (by omega)).mpr (Nat.le_refl _))]
        exact kk t (Nat.le_refl _) (Or.inl rfl)
      | succ m ih =>
        intro t hm ht
        have nx := ih (t + 1) (by omega) (by omega)
        rw [show 32 + (t + 1) = 32 + t + 1 by omega, ← ni_p1] at nx
        refine v98_23 hp h15 ?_
        rw [if_neg (fun z => absurd ((ni_le (by omega) (by omega)).mp z) (by omega)), show (ni (32 + t)).toNatClampNeg = 32 + t from ni_nat (by omega), show (ni (32 + x)).toNatClampNeg = 32 + x from ni_nat (by omega)]
        refine ⟨ni_in (by omega) (by omega), ni_in (by omega) (by omega), ?_⟩
        by_cases c : I (r + 15 + 7) (32 + t) = I (r + 15 + 7) (32 + x)
        · rw [if_pos c]
          refine sp_sg_has hp h21 (by omega) (am_back (v98_51 hp h15 ?_))
          rw [hNm t (by omega)]
          cases hnt : nmS w t with
          | true =>
            rw [show b2 true = 1 from rfl, if_neg (by decide)]
            exact nx
          | false =>
            rw [show b2 false = 0 from rfl, if_pos rfl]
            exact kk t ht (Or.inr ⟨hrow t (by omega) x hx c, hnt, hnx⟩)
        · rw [if_neg c]
          exact nx
    exact LP _ 0 rfl (Nat.zero_le _)
/-- a text, copied -/
theorem sc_cptext (hp : am_PF Pf) {I : am_I} {J : am_J} (hT : cTx 135 I T) {d : Nat} (kk : ∀ I', cTx 140 I' T → (∀ o k, ¬ (o = 140 ∧ k = 1) → o ≠ 141 → I' o k = I o k) → P (.inl none, (am_SH, I', J, Pf), 0, 0)) : am_mth (d + 1) 109 [.ref 140, .ref 135] (am_SH, I, J, Pf) P := by
  have h24 := hT.2.1
  refine am_mth_of rfl rfl (v109_0 hp rfl rfl ?_)
  rw [hT.1]
  refine v109_22 (L0 := 24) (L1 := 24) rfl rfl (by omega) h24 h24 (v109_25 hp ?_)
  refine kk _ ⟨?_, h24, fun i hi => ?_⟩ (fun o k e1 e2 => ?_)
  · rw [cpI_out (by omega)]; exact am_u_same
  · rw [cpI_in (Nat.zero_le _) (by omega), am_u_nq (by omega), show 0 + (i - 0) = i by omega]
    exact hT.2.2 i hi
  · rw [cpI_out (by omega), am_u_nq (by omega)]
theorem sc_fitting (hp : am_PF Pf) (hr : r = 16 ∨ r = 55) (hF : cFn Pf r) (hG : WG w) (hs : sndW w) {I : am_I} {J : am_J} (hQ : cQ r I J w T) {s pl : Nat} (h8 : s < 8) (hpl : pl < T.1) {D : Nat} (hD : 120 ≤ D) (kk : ∀ I' J', cKp I' J' w → (∀ o k, ¬ (112 ≤ o ∧ o ≤ 134) → ¬ (140 ≤ o ∧ o ≤ 144) → I' o k = I o k) → (∀ o, o ≠ 117 → o ≠ 118 → J' o = J o) → (∀ k, k < 95 → sgD J' 117 k = fitF w T s pl k) → sgT J' 117 → P (.inl (some (.ref 117)), (am_SH, I', J', Pf), 0, 0)) : am_mth D 17 [.ref 112, .ref 135, .ref 140, .int (ni s), .int (ni pl)] (am_SH, I, J, Pf) P := by
  obtain ⟨D', rfl⟩ : ∃ D', D = D' + 6 := ⟨D - 6, by omega⟩
  obtain ⟨hR, hT, hTo, hK, -⟩ := hQ
  have h24 := hT.2.1
  have s117 : am_SH[117]? = some (.inl 6) := rfl
  have hsg : ∀ v, v < 95 → txOK (T.1, fu T.2 pl (ni (32 + v))) := fun v hv => ⟨h24, fun i hi => by
    show isSg (fu T.2 pl (ni (32 + v)) i) = true
    unfold fu
    split
    · unfold isSg
      have a1 : (32 : Int32) ≤ ni (32 + v) := (gle 32 (by omega) (by omega)).mpr (by omega)
      have a2 : ni (32 + v) ≤ (126 : Int32) := (lle 126 (by omega) (by omega)).mpr (by omega)
      exact decide_eq_true ⟨a1, a2⟩
    · exact hTo.2 i hi⟩
  -- the loop over the signs: the rows behind the place are right from the first sign on
  have LP : ∀ (m x : Nat) (I1 : am_I) (J1 : am_J) (l6 : Option Value), 95 - x = m → x ≤ 95 → cKp I1 J1 w → (∀ o k, ¬ (112 ≤ o ∧ o ≤ 134) → ¬ (140 ≤ o ∧ o ≤ 144) → I1 o k = I o k) → (∀ o, o ≠ 117 → o ≠ 118 → J1 o = J o) → (∀ k, k < 95 → sgD J1 117 k = (decide (k < x) && fitF w T s pl k)) → sgT J1 117 → I1 140 1 = ni T.1 → (∀ i, i < T.1 → i ≠ pl → I1 141 i = T.2 i) → (0 < x → ∃ v, v < 95 ∧ ∀ i, pl < i → i ≤ T.1 → cTr 140 I1 w 3 (T.1, fu T.2 pl (ni (32 + v))) i) → am_go none (D' + 5) 17 (16, [some (.ref 112), some (.ref 135), some (.ref 140), some (.int (ni s)), some (.int (ni pl)), some (.int (ni (32 + x))), l6], [], (am_SH, I1, J1, Pf), 0, 0) P := by
    intro m
    induction m with
    | zero =>
      intro x I1 J1 l6 hm hx p1 p2 p3 p4 p5 p6 p7 p8
      obtain rfl : x = 95 := by omega
      refine v17_16 hp rfl ?_
      rw [if_pos (show (126 : Int32) < ni (32 + 95) from by decide)]
      exact kk I1 J1 p1 p2 p3 (fun k hk => by rw [p4 k hk, decide_eq_true hk, Bool.true_and]) p5
    | succ m ih =>
      intro x I1 J1 l6 hm hx p1 p2 p3 p4 p5 p6 p7 p8
      have hx95 : x < 95 := by omega
      have n1 : 95 - (x + 1) = m := by clear p8; omega
      have n2 : x + 1 ≤ 95 := by clear p8; omega
      have hR1 : cRs r I1 J1 w := hR.low hr hG (fun o k ho => p2 o k (by omega) (by omega)) (fun o ho => p3 o (by omega) (by omega))
      -- what comes behind this sign
      have nx : ∀ (I2 : am_I) (J2 : am_J) (l6 : Option Value), cKp I2 J2 w → (∀ o k, ¬ (112 ≤ o ∧ o ≤ 134) → ¬ (140 ≤ o ∧ o ≤ 144) → I2 o k = I o k) → (∀ o, o ≠ 117 → o ≠ 118 → J2 o = J o) → (∀ k, k < 95 → sgD J2 117 k = ((decide (k < x) && fitF w T s pl k) || (decide (k = x) && fitF w T s pl x))) → sgT J2 117 → I2 140 1 = ni T.1 → (∀ i, i < T.1 → i ≠ pl → I2 141 i = T.2 i) → (∃ v, v < 95 ∧ ∀ i, pl < i → i ≤ T.1 → cTr 140 I2 w 3 (T.1, fu T.2 pl (ni (32 + v))) i) → am_go none (D' + 5) 17 (16, [some (.ref 112), some (.ref 135), some (.ref 140), some (.int (ni s)), some (.int (ni pl)), some (.int (ni (32 + x) + 1)), l6], [], (am_SH, I2, J2, Pf), 0, 0) P := by
        intro I2 J2 l6 c1 c2 c3 c4 c5 c6 c7 c8
        rw [ni_p1, show 32 + x + 1 = 32 + (x + 1) by omega]
        refine ih (x + 1) I2 J2 l6 n1 n2 c1 c2 c3 (fun k hk => ?_) c5 c6 c7 (fun _ => c8)
        rw [c4 k hk]
        by_cases e : k = x
        · subst e
          rw [decide_eq_false (by omega), decide_eq_true rfl, decide_eq_true (by omega), Bool.false_and, Bool.false_or]
        · rw [decide_eq_false e, Bool.false_and, Bool.or_false]
          congr 1
          rw [decide_eq_decide]
          omega
      refine v17_16 hp rfl ?_
      rw [if_neg (fun z => absurd ((glt 126 (by omega) (by omega)).mp z) (by omega))]
      refine ⟨r + 15, hF.2, by rcases hr with rfl | rfl <;> rfl, ?_⟩
      refine sc_twin (d := D' + 3) hp hr hG hR1.2 hx95 (fun t ht htw => am_back (v17_32 hp rfl ?_))
      by_cases et : t = x
      · -- tried
        subst et
        rw [if_pos ((ni_le (by omega) (by omega)).mpr (Nat.le_refl _)), ni_nat (show pl < 2147483648 by omega), show (am_u I1 (140 + 1) pl (ni (32 + t))) 140 1 = ni T.1 by rw [am_u_nq (by omega)]; exact p6]
        refine ⟨ni_in (by omega) (by omega), ?_⟩
        have hTB : cTx 140 (am_u I1 (140 + 1) pl (ni (32 + t))) (T.1, fu T.2 pl (ni (32 + t))) := by
          refine ⟨by rw [am_u_nq (by omega)]; exact p6, h24, fun i hi => ?_⟩
          show am_u I1 141 pl (ni (32 + t)) 141 i = fu T.2 pl (ni (32 + t)) i
          unfold fu
          by_cases e : i = pl
          · subst e; rw [if_pos rfl]; exact am_u_same
          · rw [if_neg e, am_u_nq (by omega)]; exact p7 i hi e
        have hKB : cKp (am_u I1 (140 + 1) pl (ni (32 + t))) J1 w := p1.of (fun k => am_u_nq (by omega)) rfl
        have hRB : cRs r (am_u I1 (140 + 1) pl (ni (32 + t))) J1 w := hR1.low hr hG (fun o k ho => am_u_nq (by omega)) (fun _ _ => rfl)
        -- behind the fill
        have fin : ∀ (I2 : am_I) (J2 : am_J), cTb 140 I2 w 3 (T.1, fu T.2 pl (ni (32 + t))) → cKp I2 J2 w → cFf 140 0 (am_u I1 (140 + 1) pl (ni (32 + t))) I2 → cJf J1 J2 → am_go none (D' + 5) 17 (96, [some (.ref 112), some (.ref 135), some (.ref 140), some (.int (ni s)), some (.int (ni pl)), some (.int (ni (32 + t))), some (.int (ni (32 + t)))], [], (am_SH, I2, J2, Pf), 0, 0) P := by
          intro I2 J2 a1 a2 a3 a4
          have hrow := (a1.2.2 0 (Nat.zero_le _)).1 s h8
          have c2 : ∀ o k, ¬ (112 ≤ o ∧ o ≤ 134) → ¬ (140 ≤ o ∧ o ≤ 144) → I2 o k = I o k := fun o k e1 e2 => by
            rw [a3 o k (by omega) (by omega) (by omega) (by omega) (by omega) (by omega), am_u_nq (by omega)]
            exact p2 o k e1 e2
          have c3 : ∀ o, o ≠ 117 → o ≠ 118 → J2 o = J o := fun o e1 e2 => (a4 o e2).trans (p3 o e1 e2)
          have d117 : ∀ k, sgD J2 117 k = sgD J1 117 k := fun k => sgD_o (a4 117 (by omega)) k
          have t117 : sgT J2 117 := sgT_o (a4 117 (by omega)) p5
          have c7 : ∀ i, i < T.1 → i ≠ pl → I2 141 i = T.2 i := fun i hi e => by
            have := a1.1.2.2 i hi
            show I2 141 i = _
            rw [show I2 141 i = fu T.2 pl (ni (32 + t)) i from this]
            unfold fu
            rw [if_neg e]
          have c8 : ∃ v, v < 95 ∧ ∀ i, pl < i → i ≤ T.1 → cTr 140 I2 w 3 (T.1, fu T.2 pl (ni (32 + v))) i := ⟨t, hx95, fun i _ hi => a1.2.2 i hi⟩
          refine v17_96 hp rfl ?_
          rw [show (25 : Int32) = ni 25 from rfl, ni_mul, Int32.add_zero, show (ni (s * 25)).toNatClampNeg = 25 * s + 0 by rw [ni_nat (by omega)]; omega, show I2 140 1 = ni T.1 from a1.1.1]
          refine ⟨ni_in (by omega) (by omega), ?_⟩
          by_cases c0 : 0 < HHx w 3 (T.1, fu T.2 pl (ni (32 + t))) s 0 T.1
          · have ef : fitF w T s pl t = true := decide_eq_true c0
            rw [if_neg (fun z => (bts_us hrow (by omega)).mp z ⟨Nat.zero_le _, Nat.le_refl _, c0⟩)]
            refine sg_add (d := D' + 4) hp s117 t117 (by omega) (fun J3 g => am_back (v17_118 hp rfl ?_))
            refine nx I2 J3 _ (a2.of (fun _ => rfl) (g.1 118 (by omega))) c2 (fun o e1 e2 => (g.1 o e1).trans (c3 o e1 e2)) (fun k hk => ?_) g.2.2 a1.1.1 c7 c8
            rw [g.2.1 k hk]
            show (sgD J2 117 k || decide (k + 32 = 32 + t)) = _
            rw [d117 k, p4 k hk, ef, Bool.and_true]
            congr 1
            rw [decide_eq_decide]
            omega
          · have ef : fitF w T s pl t = false := decide_eq_false c0
            rw [if_pos ((bts_us hrow (by omega)).mpr (fun z => c0 z.2.2))]
            refine nx I2 J2 _ a2 c2 c3 (fun k hk => ?_) t117 a1.1.1 c7 c8
            rw [d117 k, p4 k hk, ef, Bool.and_false, Bool.or_false]
        by_cases e32 : t = 0
        · subst e32
          rw [if_pos (show ni (32 + 0) = (32 : Int32) from by decide), show (0 : Int32) = ni 0 from rfl]
          refine cFIL_all hp hr hF hG hs 3 0 rfl _ _ 140 T.1 _ J1 _ (by omega) rfl (by omega) (Or.inr (by omega)) hRB hTB (hsg _ hx95) hKB (Nat.le_refl _) (fun i a b => absurd a (Nat.not_lt.mpr b)) (fun I2 J2 a1 a2 a3 a4 => am_back (fin I2 J2 a1 a2 a3 a4))
        · obtain ⟨v, hv, hvr⟩ := p8 (by omega)
          rw [if_neg (fun z => e32 (by have := (leq 32 (by omega) (by omega)).mp z; omega)), show (0 : Int32) = ni 0 from rfl]
          refine cFIL_all hp hr hF hG hs 3 0 rfl _ _ 140 pl _ J1 _ (by omega) rfl (by omega) (Or.inr (by omega)) hRB hTB (hsg _ hx95) hKB (Nat.le_of_lt hpl) (fun i a b => ?_) (fun I2 J2 a1 a2 a3 a4 => am_back (fin I2 J2 a1 a2 a3 a4))
          have := (hvr i a b).tr hG hs (txQ.off (T := T) (pl := pl) (u := ni (32 + v)) (v := ni (32 + t))) (show pl + 1 ≤ i from a)
          exact ⟨fun t ht => by rw [am_u_nq (by omega)]; exact this.1 t ht, fun q hq => by
            rcases this.2 q hq with ⟨e, e1, e2, e3, e4⟩ | ⟨e3, e4⟩
            · exact Or.inl ⟨e, e1, e2, by rw [am_u_nq (by omega)]; exact e3, e4⟩
            · exact Or.inr ⟨by rw [am_u_nq (by omega)]; exact e3, e4⟩⟩
      · -- like its twin
        have htx : t < x := by omega
        have hef : fitF w T s pl t = fitF w T s pl x := fit_tw hG hs h8 (htw.resolve_left et) (by omega) hx95
        rw [if_neg (fun z => absurd ((ni_le (by omega) (by omega)).mp z) (by omega))]
        refine sp_sg_has (d := D' + 4) hp s117 (by omega) (am_back (v17_50 hp rfl ?_))
        rw [sgH_f (f := fun k => decide (k < x) && fitF w T s pl k) p4 (show t < 95 by omega), decide_eq_true htx, Bool.true_and, hef]
        obtain ⟨v, hv, hvr⟩ := p8 (by omega)
        cases ef : fitF w T s pl x with
        | false =>
          rw [show b2 false = 0 from rfl, if_pos rfl]
          refine nx I1 J1 _ p1 p2 p3 (fun k hk => ?_) p5 p6 p7 ⟨v, hv, hvr⟩
          rw [p4 k hk, ef, Bool.and_false, Bool.or_false]
        | true =>
          rw [show b2 true = 1 from rfl, if_neg (by decide)]
          refine sg_add (d := D' + 4) hp s117 p5 (by omega) (fun J3 g => am_back (v17_62 hp rfl ?_))
          refine nx I1 J3 _ (p1.of (fun _ => rfl) (g.1 118 (by omega))) p2 (fun o e1 e2 => (g.1 o e1).trans (p3 o e1 e2)) (fun k hk => ?_) g.2.2 p6 p7 ⟨v, hv, hvr⟩
          rw [g.2.1 k hk]
          show (sgD J1 117 k || decide (k + 32 = 32 + x)) = _
          rw [p4 k hk, ef, Bool.and_true]
          congr 1
          rw [decide_eq_decide]
          omega
  refine am_mth_of rfl rfl (v17_0 hp rfl rfl ?_)
  refine sc_cptext (d := D' + 4) hp hT (fun I1 g1 g2 => am_back (v17_5 hp rfl ?_))
  refine sg_clear (d := D' + 4) hp s117 (fun J1 g => am_back (v17_12 hp rfl ?_))
  rw [show (32 : Int32) = ni (32 + 0) from rfl]
  refine LP _ 0 I1 J1 _ rfl (Nat.zero_le _) (hK.of (fun k => g2 _ _ (by omega) (by omega)) (g.1 118 (by omega))) (fun o k e1 e2 => g2 _ _ (by omega) (by omega)) (fun o e1 e2 => g.1 o e1) (fun k hk => by rw [g.2.1 k hk, decide_eq_false (by omega), Bool.false_and]) g.2.2 g1.1 (fun i hi _ => g1.2.2 i hi) (fun z => absurd z (by omega))
theorem sc_firstlike (hp : am_PF Pf) (hr : r = 16 ∨ r = 55) (hG : WG w) {I : am_I} {J : am_J} (hR : cRs r I J w) {f : Nat → Bool} (hf : ∀ k, k < 95 → sgD J 117 k = f k) (hfT : sgT J 117) {d : Nat} (kk : P (.inl (some (.int (fcK w f (wN w 0) 0))), (am_SH, I, J, Pf), 0, 0)) : am_mth (d + 2) 68 [.ref r, .ref 117] (am_SH, I, J, Pf) P := by
  obtain ⟨⟨w0, w0'⟩, -⟩ := id hG.1
  have hrs := rul_sh hr
  have hI : I r 1 = ni (wN w 0) := hR.1.1.1.trans w0
  have LP : ∀ (m k : Nat), wN w 0 - k = m → k ≤ wN w 0 → P (.inl (some (.int (fcK w f m k))), (am_SH, I, J, Pf), 0, 0) → am_go none (d + 1) 68 (2, [some (.ref r), some (.ref 117), some (.int (ni k))], [], (am_SH, I, J, Pf), 0, 0) P := by
    intro m
    induction m with
    | zero =>
      intro k hm hk kk
      refine v68_2 hp hrs rfl ?_
      rw [hI, if_pos ((ni_le (by omega) (by omega)).mpr (by omega))]
      exact kk
    | succ m ih =>
      intro k hm hk kk
      have hk2 : k < wN w 0 := by omega
      obtain ⟨o1, o2⟩ := cls_obj hp hr (show k < 8 by omega)
      obtain ⟨g1, g2⟩ := hR.1.2.1 k hk2
      refine v68_2 hp hrs rfl ?_
      rw [hI, if_neg (fun z => absurd ((ni_le (by omega) (by omega)).mp z) (by omega)), if_neg (fun z => absurd ((gle 8 (by omega) (by omega)).mp z) (by omega)), show (ni k).toNatClampNeg = k from ni_nat (by omega)]
      have e : fcK w f (m + 1) k = cif (∀ x, x < 95 → wCls w k x = f x) (ni k) (fcK w f m (k + 1)) := rfl
      rw [e] at kk
      refine ⟨ni_in (by omega) (by omega), cO r + k, o1, o2, ?_⟩
      refine sg_like (d := d) hp o2 rfl g1 hf g2 hfT (fun z => am_back (v68_26 hp hrs rfl ?_)) (fun z => am_back (v68_26 hp hrs rfl ?_))
      · rw [cif_t z] at kk
        rw [if_neg (by decide)]; exact kk
      · rw [cif_f z] at kk
        rw [if_pos rfl, ni_p1]
        exact ih (k + 1) (by omega) (by omega) kk
  refine am_mth_of rfl rfl (v68_0 hp hrs rfl ?_)
  rw [show (0 : Int32) = ni 0 from rfl]
  exact LP _ 0 rfl (Nat.zero_le _) kk
theorem sc_fitq (hp : am_PF Pf) (hr : r = 16 ∨ r = 55) (hr2 : Pf 0 2 = some r) (hF : cFn Pf r) (hG : WG w) (hs : sndW w) {I : am_I} {J : am_J} (hQ : cQ r I J w T) {D : Nat} (hD : 140 ≤ D) {x1 x2 x3 : Int32} (kk : cA P Pf r w T I J (qFt T.1 (aFt w T) x1 x2 x3)) : am_mth D 167 [.ref 0, .int x1, .int x2, .int x3] (am_SH, I, J, Pf) P := by
  obtain ⟨D', rfl⟩ : ∃ D', D = D' + 10 := ⟨D - 10, by omega⟩
  have h24 := hQ.2.1.2.1
  refine am_mth_of rfl rfl (v167_0 hp ?_)
  rw [hQ.2.1.1]
  refine sc_inC (d := D' + 3) hp (by omega) (fun pl hpl hpln => am_back (v167_12 hp ?_)) (fun hb => am_thru rfl ?_)
  · refine sc_nsort (d := D' + 2) hp (fun s hs1 h8 => am_back (v167_17 hp ?_)) (fun hb => am_thru rfl ?_)
    · rw [show (2 : Int32) = ni 2 from rfl]
      refine sc_in (d := D' + 3) (n := 2) hp (by omega) (fun c hc hc2 => am_back (v167_24 hp ?_)) (fun hb => am_thru rfl ?_)
      · subst hs1 hpl hc
        rw [qFt_t hpln (by omega) (show s ≤ 7 by omega) hc2] at kk
        refine sc_fitting hp hr hF hG hs hQ h8 hpln (by omega) (fun I2 J2 a1 a2 a3 a4 a5 => am_back (v167_41 hp rfl ?_))
        have hQ2 : cQ r I2 J2 w T := hQ.aft hr hG a1 (fun o k e1 e2 e3 => a2 o k e1 e2) (fun o ho => a3 o (by omega) (by omega))
        have hkk := kk I2 J2 hQ2 (fun o k e1 e2 e3 e4 e5 => a2 o k e4 (by omega)) (fun o e => a3 o (by omega) (by omega))
        unfold aFt at hkk
        have hle := cnt_le (f := fitF w T s pl) 95
        refine sg_size (d := D' + 7) hp rfl a4 a5 (am_back (v167_48 hp rfl ?_))
        by_cases c0 : c = 0
        · subst c0
          rw [if_pos rfl] at hkk
          rw [if_pos (by decide)]; exact hkk
        · rw [if_neg c0] at hkk
          rw [if_neg (fun z => c0 ((leq 0 (by omega) (by omega)).mp z))]
          by_cases cz : cntN (fitF w T s pl) 95 = 0
          · rw [if_pos ((leq 0 (by omega) (by omega)).mpr cz)]
            by_cases c1 : c = 1
            · rw [if_pos c1, lsP_no 95 (cnt_0 95 cz)] at hkk
              exact hkk
            · rw [if_neg c1, if_pos cz] at hkk
              exact hkk
          · rw [if_neg (fun z => cz ((leq 0 (by omega) (by omega)).mp z))]
            by_cases c1 : c = 1
            · subst c1
              rw [if_pos rfl] at hkk
              rw [if_pos (by decide)]
              exact sg_least (d := D' + 6) hp rfl a4 (am_back (v167_74 hp hkk))
            · rw [if_neg c1, if_neg cz] at hkk
              rw [if_neg (fun z => c1 ((leq 1 (by omega) (by omega)).mp z))]
              exact ⟨r, hr2, rul_sh hr, sc_firstlike (d := D' + 7) hp hr hG hQ2.1 a4 a5 (am_back (v167_86 hp hkk))⟩
      · rw [qFt_1 ⟨pl, hpl, hpln⟩ (fun z => hb z.2)] at kk
        exact kk
    · rw [qFt_1 ⟨pl, hpl, hpln⟩ (fun z => hb z.1)] at kk
      exact kk
  · rw [qFt_0 hb] at kk
    exact kk
end FTC
