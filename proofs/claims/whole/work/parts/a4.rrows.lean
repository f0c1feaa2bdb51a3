/-! Ways: the reference counts rows; both count ways -/
section RWR
variable {d0 : Nat} {P : am_O → Prop} {J : am_J} {Pf : am_R} {T : TX} {w : Nat → Int32}
theorem cif_00 (c : Prop) : cif c (0 : Int32) 0 = 0 := by
  by_cases h : c
  · exact cif_t h
  · exact cif_f h
theorem sr_rows (hp : am_PF Pf) (hG : WG w) {I : am_I} (hg : I 167 = w) (hT : rTd 0 I T) (h180 : I 180 0 = ni T.1) (hTo : txOK T) {H : Nat → Nat} (hH : rHi 0 I H) (hHb : hBd H 5000) {S : Nat → Nat → Nat → Prop} (hS : ∀ t b e, t < 8 → b ≤ e → e ≤ T.1 → (0 < hC H t b e ↔ S t b e)) {p i j : Nat} (hpp : p < wN w 1) (hij : i ≤ j) (hj : j ≤ T.1)
    (kk : ∀ I', (∀ o k, o ≠ 192 → o ≠ 193 → I' o k = I o k) → P (.inl (some (.int (rwM w T S p i j (wN w (32 + 3 * p + 2)) j))), (am_SH, I', J, Pf), 0, 0)) : am_mth (d0 + 5) 292 [.ref 163, .int (ni p), .int (ni i), .int (ni j)] (am_SH, I, J, Pf) P := by
  have h24 := hT.2.1
  obtain ⟨-, ⟨w1, w1'⟩, -⟩ := id hG.1
  obtain ⟨g1, g2, g3, g4, g5, g6⟩ := hG.pr hpp
  have e32 : ∀ I1 : am_I, (∀ o y, o ≠ 192 → o ≠ 193 → I1 o y = I o y) → I1 167 = w := fun I1 hf => by rw [← hg]; funext y; exact hf _ _ (by omega) (by omega)
  have stay : ∀ I1 : am_I, (∀ o y, o ≠ 192 → o ≠ 193 → I1 o y = I o y) → rTd 0 I1 T := fun I1 hf => ⟨by rw [hf _ _ (by omega) (by omega)]; exact hT.1, h24, fun x hx => by rw [hf _ _ (by omega) (by omega)]; exact hT.2.2 x hx⟩
  -- the row laid anew
  have LC : ∀ (m k c : Nat) (I1 : am_I) (l5 l7 l8 : Option Value) (R : Nat → Int32), am_k1 l5 = true → 25 - c = m → c ≤ 25 → (∀ o y, o ≠ 192 → o ≠ 193 → I1 o y = I o y) → (∀ x, i ≤ x → x ≤ j → I1 193 x = R x) → (∀ x, x < c → I1 192 x = I1 193 x) → (∀ I' l5 l6 l7 l8, (∀ o y, o ≠ 192 → o ≠ 193 → I' o y = I o y) → (∀ x, i ≤ x → x ≤ j → I' 192 x = R x) → am_go none (d0 + 4) 292 (37, [some (.ref 163), some (.int (ni p)), some (.int (ni i)), some (.int (ni j)), some (.int (ni (k + 1))), l5, l6, l7, l8], [], (am_SH, I', J, Pf), 0, 0) P) → am_go none (d0 + 4) 292 (247, [some (.ref 163), some (.int (ni p)), some (.int (ni i)), some (.int (ni j)), some (.int (ni k)), l5, some (.int (ni c)), l7, l8], [], (am_SH, I1, J, Pf), 0, 0) P := by
    intro m
    induction m with
    | zero =>
      intro k c I1 l5 l7 l8 R h5 hm hc hf h3 hcp kk
      have : c = 25 := by omega
      subst this
      refine v292_247 hp h5 ?_
      rw [if_pos ((gle 25 (by omega) (by omega)).mpr (by omega)), ni_p1]
      exact kk I1 _ _ _ _ hf (fun x h1 h2 => by rw [hcp x (by omega)]; exact h3 x h1 h2)
    | succ m ih =>
      intro k c I1 l5 l7 l8 R h5 hm hc hf h3 hcp kk
      refine v292_247 hp h5 ?_
      rw [if_neg (fun z => absurd ((gle 25 (by omega) (by omega)).mp z) (by omega)), show (ni c).toNatClampNeg = c from ni_nat (by omega), ni_p1]
      refine ⟨ni_in (by omega) (by omega), ni_in (by omega) (by omega), ih k (c + 1) _ _ _ _ R h5 (by omega) (by omega) (fun o y e1 e2 => (am_u_nq (by omega)).trans (hf o y e1 e2)) (fun x h1 h2 => by rw [am_u_nq (by omega)]; exact h3 x h1 h2) (fun x hx => ?_) kk⟩
      rw [am_u_nq (o := 192) (o' := 193) (by omega)]
      by_cases e : x = c
      · subst e; exact am_u_same
      · rw [am_u_nq (by omega)]; exact hcp x (by omega)
  -- all places
  have LA : ∀ (m k a : Nat) (I1 : am_I) (l7 l8 : Option Value), j + 1 - a = m → i ≤ a → a ≤ j + 1 → k < wN w (32 + 3 * p + 2) → (∀ o y, o ≠ 192 → o ≠ 193 → I1 o y = I o y) → (∀ x, i ≤ x → x ≤ j → I1 192 x = rwM w T S p i j k x) → (∀ x, i ≤ x → x ≤ j → I1 193 x = smI (fun a => cif (prE w T S p k (bgW w T p k a) x) (rwM w T S p i j k a) 0) i (a - i)) → (∀ I' l5 l6 l7 l8, (∀ o y, o ≠ 192 → o ≠ 193 → I' o y = I o y) → (∀ x, i ≤ x → x ≤ j → I' 192 x = rwM w T S p i j (k + 1) x) → am_go none (d0 + 4) 292 (37, [some (.ref 163), some (.int (ni p)), some (.int (ni i)), some (.int (ni j)), some (.int (ni (k + 1))), l5, l6, l7, l8], [], (am_SH, I', J, Pf), 0, 0) P) → am_go none (d0 + 4) 292 (96, [some (.ref 163), some (.int (ni p)), some (.int (ni i)), some (.int (ni j)), some (.int (ni k)), some (.int (ni (eP p k))), some (.int (ni a)), l7, l8], [], (am_SH, I1, J, Pf), 0, 0) P := by
    intro m
    induction m with
    | zero =>
      intro k a I1 l7 l8 hm hia haj hk hf h2 h3 kk
      have : a = j + 1 := by omega
      subst this
      refine v292_96 hp ?_
      rw [if_pos ((ni_lt (by omega) (by omega)).mpr (by omega)), show (0 : Int32) = ni 0 from rfl]
      exact LC _ k 0 I1 _ _ _ (rwM w T S p i j (k + 1)) rfl rfl (by omega) hf (fun x h1 h2 => h3 x h1 h2) (fun x hx => absurd hx (by omega)) kk
    | succ m ih =>
      intro k a I1 l7 l8 hm hia haj hk hf h2 h3 kk
      have hb2 := bgW_le (w := w) (p := p) (k := k) (show a ≤ T.1 by omega)
      have hE : eP p k + 11 ≤ 1040 := by unfold eP; omega
      refine v292_96 hp ?_
      rw [if_neg (fun z => absurd ((ni_lt (by omega) (by omega)).mp z) (by omega)), show (ni a).toNatClampNeg = a from ni_nat (by omega), h2 a hia (by omega), ni_p1]
      have bin : am_in (ni a) 25 = true := ni_in (by omega) (by omega)
      refine ⟨bin, ?_⟩
      by_cases c0 : rwM w T S p i j k a = 0
      · rw [if_pos c0]
        refine ih k (a + 1) I1 _ _ (by omega) (by omega) (by omega) hk hf h2 (fun x hx1 hx2 => ?_) kk
        rw [h3 x hx1 hx2, show a + 1 - i = a - i + 1 by omega, smI_s, show i + (a - i) = a by omega, c0, cif_00, Int32.add_zero]
      rw [if_neg c0]
      rw [show (0 : Int32) = ni 0 from rfl]
      refine sr_begin (d0 := d0 + 1) hp hG (by omega) (e32 I1 hf) (stay I1 hf) hTo hpp (by omega) (by omega) (am_back (v292_125 hp ?_))
      generalize hbb : bgW w T p k a = b at *
      -- behind this place
      have nx : ∀ (I2 : am_I) (l7 l8 : Option Value), (∀ o y, o ≠ 192 → o ≠ 193 → I2 o y = I o y) → (∀ x, i ≤ x → x ≤ j → I2 192 x = rwM w T S p i j k x) → (∀ x, i ≤ x → x ≤ j → I2 193 x = I1 193 x + cif (prE w T S p k b x) (rwM w T S p i j k a) 0) → am_go none (d0 + 4) 292 (96, [some (.ref 163), some (.int (ni p)), some (.int (ni i)), some (.int (ni j)), some (.int (ni k)), some (.int (ni (eP p k))), some (.int (ni (a + 1))), l7, l8], [], (am_SH, I2, J, Pf), 0, 0) P := by
        intro I2 l7 l8 f2 g2 g3
        refine ih k (a + 1) I2 _ _ (by omega) (by omega) (by omega) hk f2 g2 (fun x hx1 hx2 => ?_) kk
        rw [g3 x hx1 hx2, h3 x hx1 hx2, show a + 1 - i = a - i + 1 by omega, smI_s, show i + (a - i) = a by omega, hbb]
      rw [e32 I1 hf, show (ni (eP p k)).toNatClampNeg = eP p k from ni_nat (by omega)]
      refine ⟨ni_in (by omega) (by omega), ?_⟩
      by_cases c1 : w (eP p k) = 1
      · rw [if_pos c1]
        obtain ⟨s8, se⟩ := WG.so (g6 k hk) c1
        generalize hss : wN w (eP p k + 1) = s at *
        have LE : ∀ (m e : Nat) (I2 : am_I), T.1 + 1 - e = m → b ≤ e → e ≤ T.1 + 1 → (∀ o y, o ≠ 192 → o ≠ 193 → I2 o y = I o y) → (∀ x, i ≤ x → x ≤ j → I2 192 x = rwM w T S p i j k x) → (∀ x, i ≤ x → x ≤ j → I2 193 x = I1 193 x + (if x < e then cif (prE w T S p k b x) (rwM w T S p i j k a) 0 else 0)) → am_go none (d0 + 4) 292 (179, [some (.ref 163), some (.int (ni p)), some (.int (ni i)), some (.int (ni j)), some (.int (ni k)), some (.int (ni (eP p k))), some (.int (ni a)), some (.int (ni b)), some (.int (ni e))], [], (am_SH, I2, J, Pf), 0, 0) P := by
          intro m2
          induction m2 with
          | zero =>
            intro e I2 hm2 hbe he f2 g2 g3
            have : e = T.1 + 1 := by omega
            subst this
            refine v292_179 hp ?_
            rw [f2 180 0 (by omega) (by omega), h180, if_pos ((ni_lt (by omega) (by omega)).mpr (by omega)), ni_p1]
            exact nx I2 _ _ f2 g2 (fun x h1 h2 => by rw [g3 x h1 h2, if_pos (by omega)])
          | succ m2 ihm =>
            intro e I2 hm2 hbe he f2 g2 g3
            have hcell : 625 * s + 25 * b + e < 5000 := by omega
            have hB := hHb _ hcell
            have hpe : prE w T S p k b e ↔ 0 < H (625 * s + 25 * b + e) := by
              have := hS s b e s8 hbe (by omega)
              constructor
              · rintro (z | z | z)
                · have := z.1; rw [c1] at this; cases this
                · rw [hss] at z; exact this.mpr z.2.2.2
                · have := z.1; rw [c1] at this; cases this
              · intro z
                exact Or.inr (Or.inl ⟨c1, hbe, by omega, by rw [hss]; exact this.mp z⟩)
            refine v292_179 hp ?_
            rw [f2 180 0 (by omega) (by omega), h180, if_neg (fun z => absurd ((ni_lt (by omega) (by omega)).mp z) (by omega)), e32 I2 f2, ni_p1 (eP p k), show (ni (eP p k + 1)).toNatClampNeg = eP p k + 1 from ni_nat (by omega), se, show (0 : Int32) * 8 + ni s = ni s from by rw [show (0 : Int32) * 8 = 0 from rfl, Int32.zero_add], show (625 : Int32) = ni 625 from rfl, show (25 : Int32) = ni 25 from rfl, ni_mul, ni_mul, ni_add, ni_add, show (ni (s * 625 + b * 25 + e)).toNatClampNeg = 5000 * 0 + (625 * s + 25 * b + e) by rw [ni_nat (by omega)]; omega, f2 184 _ (by omega) (by omega), hH _ hcell, show (ni a).toNatClampNeg = a from ni_nat (by omega), show (ni e).toNatClampNeg = e from ni_nat (by omega), ni_p1]
            have bie : am_in (ni e) 25 = true := ni_in (by omega) (by omega)
            refine ⟨bie, ni_in (by omega) (by omega), ni_in (by omega) (by omega), ?_⟩
            by_cases c2 : H (625 * s + 25 * b + e) = 0
            · rw [if_pos ((lle 0 (by omega) (by omega)).mpr (by omega)), Int32.add_zero, am_u_self rfl]
              refine ⟨bie, ihm (e + 1) I2 (by omega) (by omega) (by omega) f2 g2 (fun x h1 h2 => ?_)⟩
              rw [g3 x h1 h2]
              by_cases ex : x = e
              · subst ex
                rw [if_neg (by omega), if_pos (by omega), cif_f (fun z => by have := hpe.mp z; omega)]
              · by_cases cx : x < e
                · rw [if_pos cx, if_pos (by omega)]
                · rw [if_neg cx, if_neg (by omega)]
            · rw [if_neg (fun z => absurd ((lle 0 (by omega) (by omega)).mp z) (by omega))]
              refine ⟨bin, bie, ihm (e + 1) _ (by omega) (by omega) (by omega) (fun o y e1 e2 => (am_u_nq (by omega)).trans (f2 o y e1 e2)) (fun x h1 h2 => by rw [am_u_nq (by omega)]; exact g2 x h1 h2) (fun x h1 h2 => ?_)⟩
              by_cases ex : x = e
              · subst ex
                rw [am_u_same, g3 x h1 h2, g2 a hia (by omega), if_neg (by omega), if_pos (by omega), cif_t (hpe.mpr (by omega)), Int32.add_zero]
              · rw [am_u_nq (by omega), g3 x h1 h2]
                by_cases cx : x < e
                · rw [if_pos cx, if_pos (by omega)]
                · rw [if_neg cx, if_neg (by omega)]
        refine LE _ b I1 rfl (Nat.le_refl _) (by omega) hf h2 (fun x h1 h2' => ?_)
        by_cases cx : x < b
        · rw [if_pos cx, cif_f (fun z => by have := prE_le hG z; omega), Int32.add_zero]
        · rw [if_neg cx, Int32.add_zero]
      · rw [if_neg c1, show (0 : Int32) = ni 0 from rfl]
        refine sr_endof (d0 := d0 + 2) hp hG (by omega) (e32 I1 hf) (stay I1 hf) hTo hpp hk c1 (by omega) S (fun e he => am_back (v292_147 hp rfl ?_)) (fun he => am_back (v292_147 hp rfl ?_))
        · have hle := prE_le hG he
          rw [if_neg (ni_neg1 (by omega)), show (ni e).toNatClampNeg = e from ni_nat (by omega), show (ni a).toNatClampNeg = a from ni_nat (by omega), ni_p1]
          refine ⟨ni_in (by omega) (by omega), bin, ni_in (by omega) (by omega), nx _ _ _ (fun o y e1 e2 => (am_u_nq (by omega)).trans (hf o y e1 e2)) (fun x h1 h2' => by rw [am_u_nq (by omega)]; exact h2 x h1 h2') (fun x h1 h2' => ?_)⟩
          have huq : prE w T S p k b x ↔ x = e := by
            constructor
            · intro g
              rcases he with z | z | z
              · rcases g with y | y | y
                · omega
                · exact absurd y.1 c1
                · have := y.1; rw [z.1] at this; cases this
              · exact absurd z.1 c1
              · rcases g with y | y | y
                · have := y.1; rw [z.1] at this; cases this
                · exact absurd y.1 c1
                · omega
            · rintro rfl; exact he
          by_cases ex : x = e
          · subst ex
            rw [am_u_same, h2 a hia (by omega), cif_t he]
          · rw [am_u_nq (by omega), cif_f (fun z => ex (huq.mp z)), Int32.add_zero]
        · rw [if_pos rfl, ni_p1]
          exact nx I1 _ _ hf h2 (fun x h1 h2' => by rw [cif_f (he x), Int32.add_zero])
  -- the next row emptied
  have LZ : ∀ (m k c : Nat) (I1 : am_I) (l7 l8 : Option Value), 25 - c = m → c ≤ 25 → k < wN w (32 + 3 * p + 2) → (∀ o y, o ≠ 192 → o ≠ 193 → I1 o y = I o y) → (∀ x, i ≤ x → x ≤ j → I1 192 x = rwM w T S p i j k x) → (∀ x, x < c → I1 193 x = 0) → (∀ I' l5 l6 l7 l8, (∀ o y, o ≠ 192 → o ≠ 193 → I' o y = I o y) → (∀ x, i ≤ x → x ≤ j → I' 192 x = rwM w T S p i j (k + 1) x) → am_go none (d0 + 4) 292 (37, [some (.ref 163), some (.int (ni p)), some (.int (ni i)), some (.int (ni j)), some (.int (ni (k + 1))), l5, l6, l7, l8], [], (am_SH, I', J, Pf), 0, 0) P) → am_go none (d0 + 4) 292 (72, [some (.ref 163), some (.int (ni p)), some (.int (ni i)), some (.int (ni j)), some (.int (ni k)), some (.int (ni (eP p k))), some (.int (ni c)), l7, l8], [], (am_SH, I1, J, Pf), 0, 0) P := by
    intro m
    induction m with
    | zero =>
      intro k c I1 l7 l8 hm hc hk hf h2 hz kk
      have : c = 25 := by omega
      subst this
      refine v292_72 hp ?_
      rw [if_pos ((gle 25 (by omega) (by omega)).mpr (by omega))]
      refine LA _ k i I1 _ _ rfl (Nat.le_refl _) (by omega) hk hf h2 (fun x h1 h2' => ?_) kk
      rw [hz x (by omega), Nat.sub_self]; rfl
    | succ m ih =>
      intro k c I1 l7 l8 hm hc hk hf h2 hz kk
      refine v292_72 hp ?_
      rw [if_neg (fun z => absurd ((gle 25 (by omega) (by omega)).mp z) (by omega)), show (ni c).toNatClampNeg = c from ni_nat (by omega), ni_p1]
      refine ⟨ni_in (by omega) (by omega), ih k (c + 1) _ _ _ (by omega) (by omega) hk (fun o y e1 e2 => (am_u_nq (by omega)).trans (hf o y e1 e2)) (fun x h1 h2' => by rw [am_u_nq (by omega)]; exact h2 x h1 h2') (fun x hx => ?_) kk⟩
      by_cases e : x = c
      · subst e; exact am_u_same
      · rw [am_u_nq (by omega)]; exact hz x (by omega)
  have LK : ∀ (m k : Nat) (I1 : am_I) (l5 l6 l7 l8 : Option Value), wN w (32 + 3 * p + 2) - k = m → k ≤ wN w (32 + 3 * p + 2) → (∀ o y, o ≠ 192 → o ≠ 193 → I1 o y = I o y) → (∀ x, i ≤ x → x ≤ j → I1 192 x = rwM w T S p i j k x) → am_go none (d0 + 4) 292 (37, [some (.ref 163), some (.int (ni p)), some (.int (ni i)), some (.int (ni j)), some (.int (ni k)), l5, l6, l7, l8], [], (am_SH, I1, J, Pf), 0, 0) P := by
    intro m
    induction m with
    | zero =>
      intro k I1 l5 l6 l7 l8 hm hk hf h2
      have : k = wN w (32 + 3 * p + 2) := by omega
      subst this
      refine v292_37 hp ?_
      rw [show (3 : Int32) = ni 3 from rfl, ni_mul, show (32 : Int32) + ni (3 * p) = ni (32 + 3 * p) from ni_add 32 _, ni_p2, show (ni (32 + 3 * p + 2)).toNatClampNeg = 32 + 3 * p + 2 from ni_nat (by omega), e32 I1 hf, g4, if_pos ((ni_le (by omega) (by omega)).mpr (Nat.le_refl _)), show (ni j).toNatClampNeg = j from ni_nat (by omega), h2 j hij (Nat.le_refl _)]
      exact ⟨ni_in (by omega) (by omega), ni_in (by omega) (by omega), kk I1 hf⟩
    | succ m ih =>
      intro k I1 l5 l6 l7 l8 hm hk hf h2
      refine v292_37 hp ?_
      rw [show (3 : Int32) = ni 3 from rfl, ni_mul, show (32 : Int32) + ni (3 * p) = ni (32 + 3 * p) from ni_add 32 _, ni_p2, show (ni (32 + 3 * p + 2)).toNatClampNeg = 32 + 3 * p + 2 from ni_nat (by omega), e32 I1 hf, g4, if_neg (fun z => absurd ((ni_le (by omega) (by omega)).mp z) (by omega)), show (92 : Int32) + ((4 : Int32) * ni p + ni k) * 11 = ni (eP p k) by
        rw [show (92 : Int32) = ni 92 from rfl, show (4 : Int32) = ni 4 from rfl, show (11 : Int32) = ni 11 from rfl, ni_mul, ni_add, ni_mul, ni_add]; rfl, show (0 : Int32) = ni 0 from rfl]
      exact ⟨ni_in (by omega) (by omega), LZ _ k 0 I1 _ _ rfl (by omega) (by omega) hf h2 (fun x hx => absurd hx (by omega)) (fun I' l5 l6 l7 l8 z1 z2 => ih (k + 1) I' l5 l6 l7 l8 (by omega) (by omega) z1 z2)⟩
  have LI : ∀ (m c : Nat) (I1 : am_I) (l5 l6 l7 l8 : Option Value), 25 - c = m → c ≤ 25 → (∀ x, x < c → I1 192 x = if x = i then 1 else 0) → (∀ o y, o ≠ 192 → o ≠ 193 → I1 o y = I o y) → am_go none (d0 + 4) 292 (3, [some (.ref 163), some (.int (ni p)), some (.int (ni i)), some (.int (ni j)), some (.int (ni c)), l5, l6, l7, l8], [], (am_SH, I1, J, Pf), 0, 0) P := by
    intro m
    induction m with
    | zero =>
      intro c I1 l5 l6 l7 l8 hm hc hA hf
      have : c = 25 := by omega
      subst this
      refine v292_3 hp ?_
      rw [if_pos ((gle 25 (by omega) (by omega)).mpr (by omega)), show (0 : Int32) = ni 0 from rfl]
      exact LK _ 0 I1 _ _ _ _ rfl (Nat.zero_le _) hf (fun x h1 h2 => hA x (by omega))
    | succ m ih =>
      intro c I1 l5 l6 l7 l8 hm hc hA hf
      refine v292_3 hp ?_
      rw [if_neg (fun z => absurd ((gle 25 (by omega) (by omega)).mp z) (by omega)), show (ni c).toNatClampNeg = c from ni_nat (by omega), ni_p1]
      have bin : am_in (ni c) 25 = true := ni_in (by omega) (by omega)
      by_cases e : c = i
      · rw [if_pos ((ni_inj (by omega) (by omega)).mpr e)]
        refine ⟨bin, ih (c + 1) _ _ _ _ _ (by omega) (by omega) (fun x hx => ?_) (fun o y e1 e2 => (am_u_nq (by omega)).trans (hf o y e1 e2))⟩
        by_cases ej : x = c
        · subst ej; rw [am_u_same, if_pos e]
        · rw [am_u_nq (by omega)]; exact hA x (by omega)
      · rw [if_neg (fun z => e ((ni_inj (by omega) (by omega)).mp z))]
        refine ⟨bin, ih (c + 1) _ _ _ _ _ (by omega) (by omega) (fun x hx => ?_) (fun o y e1 e2 => (am_u_nq (by omega)).trans (hf o y e1 e2))⟩
        by_cases ej : x = c
        · subst ej; rw [am_u_same, if_neg e]
        · rw [am_u_nq (by omega)]; exact hA x (by omega)
  refine am_mth_of rfl rfl (v292_0 hp ?_)
  rw [show (0 : Int32) = ni 0 from rfl]
  exact LI _ 0 I _ _ _ _ rfl (by omega) (fun x hx => absurd hx (by omega)) (fun _ _ _ _ => rfl)
end RWR
