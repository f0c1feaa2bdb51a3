/-! The reference's trees: which production -/
/-- the reference knows the heights of the text -/
def rKn (I : am_I) (w : Nat → Int32) (k : Nat) (T : TX) : Prop := I 167 = w ∧ rTd 0 I T ∧ I 180 0 = ni T.1 ∧ rSd 0 I w k T
theorem rKn.of {I I' : am_I} {w : Nat → Int32} {k : Nat} {T : TX} (h : rKn I w k T) (f : ∀ o y, (o = 167 ∨ o = 180 ∨ (183 ≤ o ∧ o ≤ 186)) → I' o y = I o y) : rKn I' w k T := by
  obtain ⟨h1, h2, h3, ⟨H, h4, h5, h6⟩, h7⟩ := h
  refine ⟨by rw [← h1]; funext y; exact f _ _ (by omega), ⟨by rw [f _ _ (by omega)]; exact h2.1, h2.2.1, fun x hx => by rw [f _ _ (by omega)]; exact h2.2.2 x hx⟩, by rw [f _ _ (by omega)]; exact h3, ⟨H, fun c hc => by rw [f _ _ (by omega)]; exact h4 c hc, h5, h6⟩, fun q i hq hi => ?_⟩
  rw [f 186 _ (by omega), f 185 _ (by omega)]
  exact h7 q i hq hi
section RTN
variable {P : am_O → Prop} {J : am_J} {Pf : am_R} {T : TX} {w : Nat → Int32}
/-- a height, read -/
theorem rKn.h {I : am_I} {k : Nat} (h : rKn I w k T) (hTl : T.1 ≤ 24) {s b e : Nat} (s8 : s < 8) (hbe : b ≤ e) (he : e ≤ T.1) : I 184 (625 * s + 25 * b + e) = ni (HHx w k T s b e) ∧ HHx w k T s b e ≤ 5000 := by
  obtain ⟨-, -, -, ⟨H, h4, h5, h6⟩, -⟩ := h
  have := h6 s b e s8 (by omega) (by omega)
  rw [if_pos ⟨hbe, he⟩] at this
  have h4' := h4 (625 * s + 25 * b + e) (by omega)
  rw [Nat.mul_zero, Nat.zero_add] at h4'
  have h5' := h5 (625 * s + 25 * b + e) (by omega)
  unfold hC at this
  rw [← this]
  exact ⟨h4', h5'⟩
theorem ix0 {s b e : Nat} (s8 : s < 8) (hb : b < 25) (he : e < 25) : ((((((0 : Int32) * 8) + ni s) * 625) + (ni b * 25)) + ni e) = ni (625 * s + 25 * b + e) ∧ am_in (ni (625 * s + 25 * b + e)) 20000 = true ∧ (ni (625 * s + 25 * b + e)).toNatClampNeg = 625 * s + 25 * b + e := by
  refine ⟨?_, ni_in (by omega) (by omega), ni_nat (by omega)⟩
  rw [show (0 : Int32) * 8 = 0 from rfl, Int32.zero_add, show (625 : Int32) = ni 625 from rfl, show (25 : Int32) = ni 25 from rfl, ni_mul, ni_mul, ni_add, ni_add]
  congr 1
  omega
theorem sr_canend (hp : am_PF Pf) (hG : WG w) {I : am_I} {k0 : Nat} (hK : rKn I w k0 T) (hTo : txOK T) {p j m : Nat} (hpp : p < wN w 1) (hj : j ≤ T.1) (hm : m < 100000) : ∀ (r k a D : Nat) (P : am_O → Prop), r = wN w (32 + 3 * p + 2) - k → k ≤ wN w (32 + 3 * p + 2) → a ≤ T.1 → r + 8 ≤ D → (ceW w T (HHx w k0 T) p j m r k a → P (.inl (some (.int 1)), (am_SH, I, J, Pf), 0, 0)) → (¬ ceW w T (HHx w k0 T) p j m r k a → P (.inl (some (.int 0)), (am_SH, I, J, Pf), 0, 0)) → am_mth D 299 [.ref 163, .int (ni p), .int (ni k), .int (ni a), .int (ni j), .int (ni m)] (am_SH, I, J, Pf) P := by
  have h24 := hTo.1
  obtain ⟨-, ⟨w1, w1'⟩, -⟩ := id hG.1
  obtain ⟨g1, g2, g3, g4, g5, g6⟩ := hG.pr hpp
  obtain ⟨hg, hT, -, -⟩ := id hK
  intro r
  induction r with
  | zero =>
    intro k a D P hr hk ha hD kk1 kk0
    obtain ⟨D', rfl⟩ : ∃ D', D = D' + 2 := ⟨D - 2, by omega⟩
    have : k = wN w (32 + 3 * p + 2) := by omega
    subst this
    refine am_mth_of rfl rfl (v299_0 hp ?_)
    rw [show (3 : Int32) = ni 3 from rfl, ni_mul, show (32 : Int32) + ni (3 * p) = ni (32 + 3 * p) from ni_add 32 _, ni_p2, show (ni (32 + 3 * p + 2)).toNatClampNeg = 32 + 3 * p + 2 from ni_nat (by omega), hg, g4, if_pos rfl]
    refine ⟨ni_in (by omega) (by omega), ?_⟩
    by_cases c : a = j
    · rw [if_pos ((ni_inj (by omega) (by omega)).mpr c)]
      exact kk1 c
    · rw [if_neg (fun z => c ((ni_inj (by omega) (by omega)).mp z))]
      exact kk0 c
  | succ r ih =>
    intro k a D P hr hk ha hD kk1 kk0
    obtain ⟨D', rfl⟩ : ∃ D', D = D' + 8 := ⟨D - 8, by omega⟩
    have qr : r = wN w (32 + 3 * p + 2) - (k + 1) := by omega
    have qk : k + 1 ≤ wN w (32 + 3 * p + 2) := by omega
    have qD : r + 8 ≤ D' + 7 := by omega
    have hE : eP p k + 11 ≤ 1040 := by unfold eP; omega
    have hb2 := bgW_le (w := w) (p := p) (k := k) ha
    refine am_mth_of rfl rfl (v299_0 hp ?_)
    rw [show (3 : Int32) = ni 3 from rfl, ni_mul, show (32 : Int32) + ni (3 * p) = ni (32 + 3 * p) from ni_add 32 _, ni_p2, show (ni (32 + 3 * p + 2)).toNatClampNeg = 32 + 3 * p + 2 from ni_nat (by omega), hg, g4, if_neg (fun z => absurd ((ni_inj (by omega) (by omega)).mp z) (by omega)), show (92 : Int32) + ((4 : Int32) * ni p + ni k) * 11 = ni (eP p k) by
      rw [show (92 : Int32) = ni 92 from rfl, show (4 : Int32) = ni 4 from rfl, show (11 : Int32) = ni 11 from rfl, ni_mul, ni_add, ni_mul, ni_add]; rfl, show (0 : Int32) = ni 0 from rfl]
    refine ⟨ni_in (by omega) (by omega), ?_⟩
    refine sr_begin (d0 := D' + 4) hp hG (by omega) hg hT hTo hpp (by omega) ha (am_back (v299_50 hp ?_))
    have hce : ceW w T (HHx w k0 T) p j m (r + 1) k a ↔ ∃ e, e ≤ j ∧ prE w T (lo (HHx w k0 T) m) p k (bgW w T p k a) e ∧ ceW w T (HHx w k0 T) p j m r (k + 1) e := Iff.rfl
    rw [hce] at kk1 kk0
    clear hce
    generalize hbb : bgW w T p k a = b at *
    rw [hg, show (ni (eP p k)).toNatClampNeg = eP p k from ni_nat (by omega)]
    refine ⟨ni_in (by omega) (by omega), ?_⟩
    by_cases c1 : w (eP p k) = 1
    · rw [if_pos c1]
      obtain ⟨s8, se⟩ := WG.so (g6 k (by omega)) c1
      generalize hss : wN w (eP p k + 1) = s at *
      have LE : ∀ (m2 e : Nat), j + 1 - e = m2 → b ≤ e → e ≤ j + 1 ∨ b = e → (∀ e', b ≤ e' → e' < e → ¬ (e' ≤ j ∧ prE w T (lo (HHx w k0 T) m) p k b e' ∧ ceW w T (HHx w k0 T) p j m r (k + 1) e')) → am_go none (D' + 7) 299 (114, [some (.ref 163), some (.int (ni p)), some (.int (ni k)), some (.int (ni a)), some (.int (ni j)), some (.int (ni m)), some (.int (ni (eP p k))), some (.int (ni b)), some (.int (ni e))], [], (am_SH, I, J, Pf), 0, 0) P := by
        intro m2
        induction m2 with
        | zero =>
          intro e hm2 hbe hej hno
          refine v299_114 hp ?_
          rw [if_pos ((ni_lt (by omega) (by omega)).mpr (by omega))]
          exact kk0 (fun ⟨e', z⟩ => hno e' (prE_le hG z.2.1).1 (by have := z.1; omega) z)
        | succ m2 ihm =>
          intro e hm2 hbe hej hno
          have hh := hK.h h24 s8 hbe (show e ≤ T.1 by omega)
          have hx := ix0 s8 (show b < 25 by omega) (show e < 25 by omega)
          refine v299_114 hp ?_
          rw [if_neg (fun z => absurd ((ni_lt (by omega) (by omega)).mp z) (by omega)), hg, ni_p1 (eP p k), show (ni (eP p k + 1)).toNatClampNeg = eP p k + 1 from ni_nat (by omega), se, hx.1, hx.2.2, hh.1, ni_p1, ni_p1]
          refine ⟨ni_in (by omega) (by omega), hx.2.1, ?_⟩
          have nx : ¬ (e ≤ j ∧ prE w T (lo (HHx w k0 T) m) p k b e ∧ ceW w T (HHx w k0 T) p j m r (k + 1) e) → am_go none (D' + 7) 299 (114, [some (.ref 163), some (.int (ni p)), some (.int (ni k)), some (.int (ni a)), some (.int (ni j)), some (.int (ni m)), some (.int (ni (eP p k))), some (.int (ni b)), some (.int (ni (e + 1)))], [], (am_SH, I, J, Pf), 0, 0) P := by
            intro hn
            refine ihm (e + 1) (by omega) (by omega) (Or.inl (by omega)) (fun e' h1 h2 => ?_)
            by_cases ee : e' = e
            · subst ee; exact hn
            · exact hno e' h1 (by omega)
          have hpr : prE w T (lo (HHx w k0 T) m) p k b e ↔ (0 < HHx w k0 T s b e ∧ HHx w k0 T s b e ≤ m) := by
            constructor
            · rintro (z | z | z)
              · have := z.1; rw [c1] at this; cases this
              · have := z.2.2.2; rw [hss] at this; exact this
              · have := z.1; rw [c1] at this; cases this
            · intro z
              exact Or.inr (Or.inl ⟨c1, hbe, by omega, by rw [hss]; exact z⟩)
          by_cases c2 : HHx w k0 T s b e = 0
          · rw [if_pos ((lle 0 (by omega) (by omega)).mpr (by omega))]
            exact nx (fun z => by have := hpr.mp z.2.1; omega)
          · rw [if_neg (fun z => absurd ((lle 0 (by omega) (by omega)).mp z) (by omega))]
            by_cases c3 : m < HHx w k0 T s b e
            · rw [if_pos ((ni_lt (by omega) (by omega)).mpr c3)]
              exact nx (fun z => by have := hpr.mp z.2.1; omega)
            · rw [if_neg (fun z => c3 ((ni_lt (by omega) (by omega)).mp z))]
              refine ih (k + 1) e (D' + 7) _ qr qk (by omega) qD (fun z => am_back (v299_157 hp ?_)) (fun z => am_back (v299_157 hp ?_))
              · rw [if_neg (by decide)]
                exact kk1 ⟨e, by omega, hpr.mpr (by omega), z⟩
              · rw [if_pos rfl, ni_p1]
                exact nx (fun y => z y.2.2)
      exact LE _ b rfl (Nat.le_refl _) (Or.inr rfl) (fun e' h1 h2 => absurd h2 (by omega))
    · rw [if_neg c1, show (0 : Int32) = ni 0 from rfl]
      refine sr_endof (d0 := D' + 5) hp hG (by omega) hg hT hTo hpp (by omega) c1 (by omega) (lo (HHx w k0 T) m) (fun e he => am_back (v299_72 hp rfl ?_)) (fun he => am_back (v299_72 hp rfl ?_))
      · have hle := prE_le hG he
        have huq : ∀ x, prE w T (lo (HHx w k0 T) m) p k b x → x = e := by
          intro x g
          rcases he with z | z | z
          · rcases g with y | y | y
            · omega
            · exact absurd y.1 c1
            · have := y.1; rw [z.1] at this; cases this
          · exact absurd z.1 c1
          · rcases g with y | y | y
            · have := y.1; rw [z.1] at this; cases this
            · exact absurd y.1 c1
            · omega
        rw [if_neg (ni_neg1 (by omega)), ni_p1]
        by_cases c2 : j < e
        · rw [if_pos ((ni_lt (by omega) (by omega)).mpr c2)]
          exact kk0 (fun ⟨e', z1, z2, _⟩ => by have := huq e' z2; omega)
        · rw [if_neg (fun z => c2 ((ni_lt (by omega) (by omega)).mp z))]
          refine ih (k + 1) e (D' + 7) _ qr qk (by omega) qD (fun z => am_back (v299_101 hp ?_)) (fun z => am_back (v299_101 hp ?_))
          · rw [if_neg (by decide)]
            exact kk1 ⟨e, by omega, he, z⟩
          · rw [if_pos rfl]
            exact kk0 (fun ⟨e', z1, z2, z3⟩ => z (by rw [← huq e' z2]; exact z3))
      · rw [if_pos rfl]
        exact kk0 (fun ⟨e', z1, z2, _⟩ => he e' z2)
/-- the first production by which a piece has its height -/
theorem sr_prodof (hp : am_PF Pf) (hG : WG w) {I : am_I} {k0 : Nat} (hK : rKn I w k0 T) (hTo : txOK T) {s i j D : Nat} (h8 : s < 8) (hij : i ≤ j) (hj : j ≤ T.1) (hpos : 0 < HHx w k0 T s i j) (hD : 20 ≤ D) (kk1 : ∀ p, pdW w T (HHx w k0 T) s i j p → lst (pdW w T (HHx w k0 T) s i j) = p → P (.inl (some (.int (ni p))), (am_SH, I, J, Pf), 0, 0)) (kk0 : (¬ ∃ p, pdW w T (HHx w k0 T) s i j p) → P (.inl (some (.int (-1))), (am_SH, I, J, Pf), 0, 0)) : am_mth D 301 [.ref 163, .int (ni s), .int (ni i), .int (ni j)] (am_SH, I, J, Pf) P := by
  obtain ⟨D', rfl⟩ : ∃ D', D = D' + 2 := ⟨D - 2, by omega⟩
  have h24 := hTo.1
  obtain ⟨-, ⟨w1, w1'⟩, -⟩ := id hG.1
  obtain ⟨hg, hT, -, -⟩ := id hK
  have hh := hK.h h24 h8 hij hj
  have hx := ix0 h8 (show i < 25 by omega) (show j < 25 by omega)
  refine am_mth_of rfl rfl (v301_0 hp ?_)
  rw [hx.1, hx.2.2, hh.1, show ni (HHx w k0 T s i j) - 1 = ni (HHx w k0 T s i j - 1) from ni_sub (b := 1) (by omega)]
  refine ⟨hx.2.1, ?_⟩
  have LP : ∀ (m2 p : Nat), wN w 1 - p = m2 → p ≤ wN w 1 → (∀ p', p' < p → ¬ pdW w T (HHx w k0 T) s i j p') → am_go none (D' + 1) 301 (19, [some (.ref 163), some (.int (ni s)), some (.int (ni i)), some (.int (ni j)), some (.int (ni (HHx w k0 T s i j - 1))), some (.int (ni p))], [], (am_SH, I, J, Pf), 0, 0) P := by
    intro m2
    induction m2 with
    | zero =>
      intro p hm2 hpp hno
      have : p = wN w 1 := by omega
      subst this
      refine v301_19 hp ?_
      rw [hg, w1, if_pos ((ni_le (by omega) (by omega)).mpr (Nat.le_refl _))]
      exact kk0 (fun ⟨p', z⟩ => hno p' z.1 z)
    | succ m2 ih =>
      intro p hm2 hpp hno
      obtain ⟨g1, g2, g3, -⟩ := hG.pr (p := p) (by omega)
      have nx : ¬ pdW w T (HHx w k0 T) s i j p → am_go none (D' + 1) 301 (19, [some (.ref 163), some (.int (ni s)), some (.int (ni i)), some (.int (ni j)), some (.int (ni (HHx w k0 T s i j - 1))), some (.int (ni (p + 1)))], [], (am_SH, I, J, Pf), 0, 0) P := by
        intro hn
        refine ih (p + 1) (by omega) (by omega) (fun p' hp' => ?_)
        by_cases e : p' = p
        · subst e; exact hn
        · exact hno p' (by omega)
      refine v301_19 hp ?_
      rw [hg, w1, if_neg (fun z => absurd ((ni_le (by omega) (by omega)).mp z) (by omega)), show (3 : Int32) = ni 3 from rfl, ni_mul, show (32 : Int32) + ni (3 * p) = ni (32 + 3 * p) from ni_add 32 _, show (ni (32 + 3 * p)).toNatClampNeg = 32 + 3 * p from ni_nat (by omega), g2, ni_p1]
      refine ⟨ni_in (by omega) (by omega), ?_⟩
      by_cases c1 : wN w (32 + 3 * p) = s
      · rw [if_pos ((ni_inj (by omega) (by omega)).mpr c1), show (0 : Int32) = ni 0 from rfl]
        refine sr_canend hp hG hK hTo (by omega) hj (by omega) (wN w (32 + 3 * p + 2)) 0 i (D' + 1) _ (by omega) (Nat.zero_le _) (by omega) (by omega) (fun z => am_back (v301_57 hp ?_)) (fun z => am_back (v301_57 hp ?_))
        · rw [if_neg (by decide)]
          have hpd : pdW w T (HHx w k0 T) s i j p := ⟨by omega, c1, z⟩
          exact kk1 p hpd (lst_eq hpd hno)
        · rw [if_pos rfl, ni_p1]
          exact nx (fun y => z y.2.2)
      · rw [if_neg (fun z => c1 ((ni_inj (by omega) (by omega)).mp z))]
        exact nx (fun y => c1 y.2.1)
  rw [show (0 : Int32) = ni 0 from rfl]
  exact LP _ 0 rfl (Nat.zero_le _) (fun p' h => absurd h (by omega))
end RTN
