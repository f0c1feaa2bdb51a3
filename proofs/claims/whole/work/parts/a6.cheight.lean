/-! The class's heights -/
/-- heights told are right -/
def cHt (I : am_I) (n : Nat) (H : Nat → Nat → Nat → Nat) (h : Nat) : Prop := ∀ s i j, s < 8 → i ≤ j → j ≤ n → lo H h s i j → I 146 (25 * (25 * s + i) + j) = ni (H s i j)
def cKn (I : am_I) (n : Nat) (H : Nat → Nat → Nat → Nat) (h s i : Nat) : Prop := bts (I 147 (25 * s + i)) (fun j => i ≤ j ∧ j ≤ n ∧ lo H h s i j)
def cFs (I : am_I) (n : Nat) (H : Nat → Nat → Nat → Nat) (h s i : Nat) : Prop := bts (I 148 (25 * s + i)) (fun j => i ≤ j ∧ j ≤ n ∧ H s i j = h + 1)
/-- heights are known -/
def cMd (I : am_I) (n : Nat) (H : Nat → Nat → Nat → Nat) : Prop := ¬ I 145 2 = 0 ∧ ∀ s i j, s < 8 → i ≤ j → j ≤ n → 0 < H s i j → I 146 (25 * (25 * s + i) + j) = ni (H s i j)
def cMf (I I' : am_I) : Prop := ∀ o y, o ≠ 146 → o ≠ 147 → o ≠ 148 → ¬ (o = 145 ∧ y = 2) → I' o y = I o y
theorem cMf.trans {I I' I'' : am_I} (h : cMf I I') (g : cMf I' I'') : cMf I I'' := fun o y e1 e2 e3 e4 => (g o y e1 e2 e3 e4).trans (h o y e1 e2 e3 e4)
theorem cMf.rfl' {I : am_I} : cMf I I := fun _ _ _ _ _ _ => rfl
section MSR
variable {d : Nat} {P : am_O → Prop} {J : am_J} {Pf : am_R} {T : TX} {w : Nat → Int32} {r : Nat}
/-- what ends below a height -/
theorem sc_below (hp : am_PF Pf) (hr : r = 16 ∨ r = 55) (hF : cFn Pf r) (hG : WG w) {I : am_I} (hR : cRs r I J w) {k : Nat} (hTb : cTb 135 I w k T) (hTo : txOK T) {h s i : Nat} (h8 : s < 8) (hi : i ≤ T.1) (hK : ∀ t b, t < 8 → b ≤ T.1 → cKn I T.1 (HHx w k T) h t b)
    (kk : ∀ u, bts u (fun j => stp w T (QQx w k T) (lo (HHx w k T) h) s i j) → P (.inl (some (.int u)), (am_SH, I, J, Pf), 0, 0)) : am_mth (d + 3) 128 [.ref 145, .int (ni s), .int (ni i)] (am_SH, I, J, Pf) P := by
  obtain ⟨hT, hRu, hRow⟩ := hTb
  have h24 := hT.2.1
  have hrs := rul_sh hr
  obtain ⟨-, ⟨w1, w1'⟩, ⟨w2, w2'⟩, -⟩ := id hG.1
  have LQ : ∀ (m q : Nat) (u : Int32) (l6 : Option Value), wN w 2 - q = m → q ≤ wN w 2 → bts u (fun j => (∃ p, p < wN w 1 ∧ wN w (32 + 3 * p) = s ∧ rch w T (lo (HHx w k T) h) p i (wN w (32 + 3 * p + 2)) j) ∨ ∃ q', q' < q ∧ wN w (972 + 5 * q') = s ∧ QQx w k T q' i j) → am_go none (d + 2) 128 (66, [some (.ref 145), some (.int (ni s)), some (.int (ni i)), some (.ref r), some (.int u), some (.int (ni q)), l6], [], (am_SH, I, J, Pf), 0, 0) P := by
    intro m
    induction m with
    | zero =>
      intro q u l6 hm hq hu
      have : q = wN w 2 := by omega
      subst this
      refine v128_66 hp hrs ?_
      rw [hR.1.1.2.2.1, w2, if_pos ((ni_le (by omega) (by omega)).mpr (Nat.le_refl _))]
      exact kk u (hu.of (fun j _ => ⟨fun z => z.elim Or.inr Or.inl, fun z => z.elim Or.inr Or.inl⟩))
    | succ m ih =>
      intro q u l6 hm hq hu
      obtain ⟨g1, g2, -⟩ := hG.qu (q := q) (by omega)
      have hQw := hR.1.2.2.2.1 q (by omega)
      refine v128_66 hp hrs ?_
      rw [hR.1.1.2.2.1, w2, if_neg (fun z => absurd ((ni_le (by omega) (by omega)).mp z) (by omega)), show (25 : Int32) = ni 25 from rfl, ni_mul, ni_add, show (ni (q * 25 + i)).toNatClampNeg = 25 * q + i by rw [ni_nat (by omega)]; omega, show (ni q).toNatClampNeg = q from ni_nat (by omega), hQw.1, g2, ni_p1]
      refine ⟨ni_in (by omega) (by omega), ni_in (by omega) (by omega), ?_⟩
      have same : ∀ l6, (∀ j, ¬ (wN w (972 + 5 * q) = s ∧ QQx w k T q i j)) → am_go none (d + 2) 128 (66, [some (.ref 145), some (.int (ni s)), some (.int (ni i)), some (.ref r), some (.int u), some (.int (ni (q + 1))), l6], [], (am_SH, I, J, Pf), 0, 0) P := by
        intro l6 hno
        refine ih (q + 1) u l6 (by omega) (by omega) (hu.of (fun j _ => ?_))
        constructor
        · rintro (z | ⟨q', z1, z2⟩)
          · exact Or.inl z
          · exact Or.inr ⟨q', by omega, z2⟩
        · rintro (z | ⟨q', z1, z2⟩)
          · exact Or.inl z
          · by_cases e : q' = q
            · subst e; exact absurd z2 (hno j)
            · exact Or.inr ⟨q', by omega, z2⟩
      by_cases c1 : wN w (972 + 5 * q) = s
      · rw [if_pos ((ni_inj (by omega) (by omega)).mpr c1)]
        rcases (hRow i hi).2 q (by omega) with ⟨e, e1, e2, e3, e4⟩ | ⟨e3, e4⟩
        · rw [show I 139 (25 * q + i) = ni e from e3, if_neg (ni_neg1 (by omega))]
          refine ih (q + 1) _ _ (by omega) (by omega) ((bts_or hu (bts_one (by omega))).of (fun j _ => ?_))
          constructor
          · rintro ((z | ⟨q', z1, z2⟩) | z)
            · exact Or.inl z
            · exact Or.inr ⟨q', by omega, z2⟩
            · exact Or.inr ⟨q, by omega, c1, (e4 j).mpr z⟩
          · rintro (z | ⟨q', z1, z2⟩)
            · exact Or.inl (Or.inl z)
            · by_cases e : q' = q
              · subst e; exact Or.inr ((e4 j).mp z2.2)
              · exact Or.inl (Or.inr ⟨q', by omega, z2⟩)
        · rw [show I 139 (25 * q + i) = -1 from e3, if_pos rfl]
          exact same _ (fun j z => e4 j z.2)
      · rw [if_neg (fun z => c1 ((ni_inj (by omega) (by omega)).mp z))]
        exact same _ (fun j z => c1 z.1)
  have LP : ∀ (m p : Nat) (u : Int32) (l6 : Option Value), wN w 1 - p = m → p ≤ wN w 1 → bts u (fun j => ∃ p', p' < p ∧ wN w (32 + 3 * p') = s ∧ rch w T (lo (HHx w k T) h) p' i (wN w (32 + 3 * p' + 2)) j) → am_go none (d + 2) 128 (14, [some (.ref 145), some (.int (ni s)), some (.int (ni i)), some (.ref r), some (.int u), some (.int (ni p)), l6], [], (am_SH, I, J, Pf), 0, 0) P := by
    intro m
    induction m with
    | zero =>
      intro p u l6 hm hpp hu
      have : p = wN w 1 := by omega
      subst this
      refine v128_14 hp hrs ?_
      rw [hR.1.1.2.1, w1, if_pos ((ni_le (by omega) (by omega)).mpr (Nat.le_refl _)), show (0 : Int32) = ni 0 from rfl]
      exact LQ _ 0 u _ rfl (Nat.zero_le _) (hu.of (fun j _ => ⟨fun z => Or.inl z, fun z => z.elim id (fun ⟨q', z1, _⟩ => absurd z1 (by omega))⟩))
    | succ m ih =>
      intro p u l6 hm hpp hu
      obtain ⟨g1, g2, -⟩ := hG.pr (p := p) (by omega)
      have hPw := hR.1.2.2.1 p (by omega)
      refine v128_14 hp hrs ?_
      rw [hR.1.1.2.1, w1, if_neg (fun z => absurd ((ni_le (by omega) (by omega)).mp z) (by omega)), show (ni p).toNatClampNeg = p from ni_nat (by omega), hPw.1, g2, ni_p1]
      refine ⟨ni_in (by omega) (by omega), ?_⟩
      by_cases c1 : wN w (32 + 3 * p) = s
      · rw [if_pos ((ni_inj (by omega) (by omega)).mpr c1)]
        refine sc_reach (d := d) hp rfl hr hF hG hR.1 hR.2.2.2.2.2.2 hT hTo hRu (x4 := 147) (Lx4 := 200) rfl (by omega) (by omega) hi (S := lo (HHx w k T) h) (fun _ _ _ b _ b2 t t8 => hK t b t8 b2) (fun v hv => am_back (v128_54 hp hrs ?_))
        rw [ni_p1]
        refine ih (p + 1) _ _ (by omega) (by omega) ((bts_or hu hv).of (fun j _ => ?_))
        constructor
        · rintro (⟨p', z1, z2⟩ | z)
          · exact ⟨p', by omega, z2⟩
          · exact ⟨p, by omega, c1, z⟩
        · rintro ⟨p', z1, z2⟩
          by_cases e : p' = p
          · subst e; exact Or.inr z2.2
          · exact Or.inl ⟨p', by omega, z2⟩
      · rw [if_neg (fun z => c1 ((ni_inj (by omega) (by omega)).mp z))]
        refine ih (p + 1) u _ (by omega) (by omega) (hu.of (fun j _ => ?_))
        constructor
        · rintro ⟨p', z1, z2⟩; exact ⟨p', by omega, z2⟩
        · rintro ⟨p', z1, z2⟩
          by_cases e : p' = p
          · subst e; exact absurd z2.1 c1
          · exact ⟨p', by omega, z2⟩
  refine am_mth_of rfl rfl (v128_0 hp ⟨r, hF.1, hrs, ?_⟩)
  rw [show (0 : Int32) = ni 0 from rfl]
  exact LP _ 0 _ _ rfl (Nat.zero_le _) (bts_0 (fun j _ ⟨p', z, _⟩ => by omega))
theorem sc_sethts (hp : am_PF Pf) {I : am_I} {n : Nat} (h24 : n ≤ 24) (hl : I 135 1 = ni n) {H : Nat → Nat → Nat → Nat} {h s i : Nat} (h8 : s < 8) (hi : i ≤ n) (hh : h < 100000) (hF : cFs I n H h s i) (hK : cKn I n H h s i)
    (kk : ∀ I', cKn I' n H (h + 1) s i → (∀ j, i ≤ j → j ≤ n → H s i j = h + 1 → I' 146 (25 * (25 * s + i) + j) = ni (h + 1)) → (∀ o y, ¬ (o = 146 ∧ ∃ j, i ≤ j ∧ j ≤ n ∧ H s i j = h + 1 ∧ y = 25 * (25 * s + i) + j) → ¬ (o = 147 ∧ y = 25 * s + i) → I' o y = I o y) → P (.inl none, (am_SH, I', J, Pf), 0, 0)) : am_mth (d + 1) 129 [.ref 145, .int (ni (25 * s + i)), .int (ni (h + 1))] (am_SH, I, J, Pf) P := by
  have ec : (ni (25 * s + i)).toNatClampNeg = 25 * s + i := ni_nat (by omega)
  have bc : am_in (ni (25 * s + i)) 200 = true := ni_in (by omega) (by omega)
  refine am_mth_of rfl rfl (v129_0 hp ?_)
  rw [ec]
  refine ⟨bc, ?_⟩
  by_cases c0 : I 148 (25 * s + i) = 0
  · rw [if_pos c0]
    have hno := (bts_z hF).mp c0
    refine kk I (hK.of (fun j hj => ?_)) (fun j h1 h2 h3 => absurd ⟨h1, h2, h3⟩ (hno j (by omega))) (fun _ _ _ _ => rfl)
    have := hno j hj
    unfold lo
    constructor
    · rintro ⟨z1, z2, z3⟩; exact ⟨z1, z2, by omega, by omega⟩
    · rintro ⟨z1, z2, z3⟩
      refine ⟨z1, z2, z3.1, ?_⟩
      have : H s i j ≠ h + 1 := fun e => this ⟨z1, z2, e⟩
      omega
  · rw [if_neg c0]
    have LP : ∀ (m c : Nat) (I1 : am_I), n + 1 - c = m → c ≤ n + 1 → (∀ o y, o ≠ 146 → I1 o y = I o y) → (∀ y, ¬ (∃ j, i ≤ j ∧ j ≤ n ∧ H s i j = h + 1 ∧ y = 25 * (25 * s + i) + j) → I1 146 y = I 146 y) → (∀ j, i ≤ j → j < c → H s i j = h + 1 → I1 146 (25 * (25 * s + i) + j) = ni (h + 1)) → am_go none d 129 (12, [some (.ref 145), some (.int (ni (25 * s + i))), some (.int (ni (h + 1))), some (.int (ni c))], [], (am_SH, I1, J, Pf), 0, 0) P := by
      intro m
      induction m with
      | zero =>
        intro c I1 hm hc hf hf2 hs
        have : c = n + 1 := by omega
        subst this
        refine v129_12 hp ?_
        rw [hf 135 1 (by omega), hl, if_pos ((ni_lt (by omega) (by omega)).mpr (by omega)), ec, hf 147 _ (by omega), hf 148 _ (by omega)]
        refine ⟨bc, bc, bc, kk _ ?_ (fun j h1 h2 h3 => by rw [am_u_nq (by omega)]; exact hs j h1 (by omega) h3) (fun o y e1 e2 => ?_)⟩
        · unfold cKn
          rw [am_u_same]
          refine (bts_or hK hF).of (fun j _ => ?_)
          unfold lo
          constructor
          · rintro (⟨z1, z2, z3⟩ | ⟨z1, z2, z3⟩)
            · exact ⟨z1, z2, by omega, by omega⟩
            · exact ⟨z1, z2, by omega, by omega⟩
          · rintro ⟨z1, z2, z3⟩
            by_cases e : H s i j = h + 1
            · exact Or.inr ⟨z1, z2, e⟩
            · exact Or.inl ⟨z1, z2, by omega, by omega⟩
        · rw [am_u_nq (fun z => e2 z)]
          by_cases e : o = 146
          · subst e; exact hf2 y (fun z => e1 ⟨rfl, z⟩)
          · exact hf o y e
      | succ m ih =>
        intro c I1 hm hc hf hf2 hs
        refine v129_12 hp ?_
        rw [hf 135 1 (by omega), hl, if_neg (fun z => absurd ((ni_lt (by omega) (by omega)).mp z) (by omega)), ec, hf 148 _ (by omega), ni_p1]
        refine ⟨bc, ?_⟩
        by_cases cc : i ≤ c ∧ c ≤ n ∧ H s i c = h + 1
        · rw [if_neg (fun z => (bts_us hF (by omega)).mp z cc), show (25 : Int32) = ni 25 from rfl, ni_mul, ni_add, show (ni ((25 * s + i) * 25 + c)).toNatClampNeg = 25 * (25 * s + i) + c by rw [ni_nat (by omega)]; omega]
          refine ⟨ni_in (by omega) (by omega), ih (c + 1) _ (by omega) (by omega) (fun o y e => (am_u_nq (by omega)).trans (hf o y e)) (fun y e => ?_) (fun j h1 h2 h3 => ?_)⟩
          · rw [am_u_nq (fun z => e ⟨c, cc.1, cc.2.1, cc.2.2, z.2⟩)]
            exact hf2 y e
          · by_cases ej : j = c
            · subst ej; exact am_u_same
            · rw [am_u_nq (by omega)]; exact hs j h1 (by omega) h3
        · rw [if_pos ((bts_us hF (by omega)).mpr cc)]
          refine ih (c + 1) I1 (by omega) (by omega) hf hf2 (fun j h1 h2 h3 => ?_)
          by_cases ej : j = c
          · subst ej; exact absurd ⟨h1, by omega, h3⟩ cc
          · exact hs j h1 (by omega) h3
    rw [show (0 : Int32) = ni 0 from rfl]
    exact LP _ 0 I rfl (by omega) (fun _ _ _ => rfl) (fun _ _ => rfl) (fun j h1 h2 => absurd h2 (by omega))
end MSR
