/-! The reference's heights: along a production, what may be -/
/-- heights on a level, as a row -/
def hC (H : Nat → Nat) (s i j : Nat) : Nat := H (625 * s + 25 * i + j)
def rHi (d : Nat) (I : am_I) (H : Nat → Nat) : Prop := ∀ c, c < 5000 → I 184 (5000 * d + c) = ni (H c)
def hBd (H : Nat → Nat) (M : Nat) : Prop := ∀ c, c < 5000 → H c ≤ M
/-- how low each place is come to -/
def alo (w : Nat → Int32) (T : TX) (H : Nat → Nat) (M p i k : Nat) (A : Nat → Nat) : Prop := (∀ j, j < 25 → ∀ h, (0 < A j ∧ A j ≤ h + 1) ↔ rch w T (lo (hC H) h) p i k j) ∧ ∀ j, j < 25 → A j ≤ M + 1
def r25 (I : am_I) (o : Nat) (A : Nat → Nat) : Prop := ∀ j, j < 25 → I o j = ni (A j)
theorem r25.set {I : am_I} {o j v : Nat} {A : Nat → Nat} (h : r25 I o A) (hj : j < 25) : r25 (am_u I o j (ni v)) o (fun i => if i = j then v else A i) := by
  intro i hi
  show _ = ni (if i = j then v else A i)
  by_cases e : i = j
  · subst e; rw [am_u_same, if_pos rfl]
  · rw [am_u_nq (by omega), if_neg e]; exact h i hi
section RHI
variable {d0 : Nat} {P : am_O → Prop} {J : am_J} {Pf : am_R} {T : TX} {w : Nat → Int32}
/-- one part from one place on -/
theorem sr_goes (hp : am_PF Pf) (hG : WG w) {d : Nat} (hd : d ≤ 3) {I : am_I} (hg : I 167 = w) (hT : rTd d I T) (hTo : txOK T) {H : Nat → Nat} {M : Nat} (hH : rHi d I H) (hM : hBd H M) (hM2 : M ≤ 100000) {p k a h0 : Nat} {N : Nat → Nat} (hN : r25 I 189 N) (hNb : ∀ j, j < 25 → N j ≤ M + 1) (hpp : p < wN w 1) (hk : k < wN w (32 + 3 * p + 2)) (ha : a ≤ T.1) (h1 : 1 ≤ h0) (h2 : h0 ≤ M + 1)
    (kk : ∀ I' N', r25 I' 189 N' → (∀ j, j < 25 → N' j ≤ M + 1) → (∀ j, j < 25 → ∀ h, (0 < N' j ∧ N' j ≤ h + 1) ↔ ((0 < N j ∧ N j ≤ h + 1) ∨ (h0 ≤ h + 1 ∧ prE w T (lo (hC H) h) p k (bgW w T p k a) j))) → (∀ o k, o ≠ 189 → I' o k = I o k) → P (.inl none, (am_SH, I', J, Pf), 0, 0)) : am_mth (d0 + 4) 270 [.ref 163, .int (ni d), .int (ni p), .int (ni k), .int (ni a), .int (ni h0)] (am_SH, I, J, Pf) P := by
  have h24 := hT.2.1
  have w1' := hG.1.2.1.2
  obtain ⟨-, -, hc4, -, -, g6⟩ := hG.pr hpp
  have hE : eP p k + 11 ≤ 1040 := by unfold eP; omega
  have hb := bgW_le (w := w) (p := p) (k := k) ha
  refine am_mth_of rfl rfl (v270_0 hp ?_)
  refine sr_begin (d0 := d0) hp hG hd hg hT hTo hpp (by omega) ha (am_back (v270_22 hp ?_))
  generalize hbb : bgW w T p k a = b at *
  rw [show (92 : Int32) + ((4 : Int32) * ni p + ni k) * 11 = ni (eP p k) by
    rw [show (92 : Int32) = ni 92 from rfl, show (4 : Int32) = ni 4 from rfl, show (11 : Int32) = ni 11 from rfl, ni_mul, ni_add, ni_mul, ni_add]; rfl, hg, show (ni (eP p k)).toNatClampNeg = eP p k from ni_nat (by omega)]
  refine ⟨ni_in (by omega) (by omega), ?_⟩
  by_cases c1 : w (eP p k) = 1
  · rw [if_pos c1]
    obtain ⟨s8, se⟩ := WG.so (g6 k hk) c1
    generalize hss : wN w (eP p k + 1) = s at *
    -- the ends, from the left
    have LP : ∀ (m e : Nat) (I1 : am_I) (N1 : Nat → Nat) (l2 l3 l4 l9 l10 : Option Value), T.1 + 1 - e = m → b ≤ e → e ≤ T.1 + 1 → r25 I1 189 N1 → (∀ j, j < 25 → N1 j ≤ M + 1) → (∀ o k, o ≠ 189 → I1 o k = I o k) → (∀ j, j < 25 → ∀ h, (0 < N1 j ∧ N1 j ≤ h + 1) ↔ ((0 < N j ∧ N j ≤ h + 1) ∨ (j < e ∧ h0 ≤ h + 1 ∧ b ≤ j ∧ lo (hC H) h s b j))) → am_go none (d0 + 3) 270 (88, [some (.ref 163), some (.int (ni d)), l2, l3, l4, some (.int (ni h0)), some (.int (ni (eP p k))), some (.int (ni b)), some (.int (ni e)), l9, l10], [], (am_SH, I1, J, Pf), 0, 0) P := by
      intro m
      induction m with
      | zero =>
        intro e I1 N1 l2 l3 l4 l9 l10 hm hbe he hN1 hNb1 hf hh
        have : e = T.1 + 1 := by omega
        subst this
        refine v270_88 hp ?_
        rw [show (25 : Int32) = ni 25 from rfl, ni_mul, show (ni (25 * d)).toNatClampNeg = 25 * d from ni_nat (by omega), hf _ _ (by omega), hT.1, if_pos ((ni_lt (by omega) (by omega)).mpr (by omega))]
        refine ⟨ni_in (by omega) (by omega), kk I1 N1 hN1 hNb1 (fun j hj h => ?_) hf⟩
        rw [hh j hj h]
        constructor
        · rintro (z | ⟨z1, z2, z3, z4⟩)
          · exact Or.inl z
          · exact Or.inr ⟨z2, Or.inr (Or.inl ⟨c1, z3, by omega, by rw [hss]; exact z4⟩)⟩
        · rintro (z | ⟨z1, z2⟩)
          · exact Or.inl z
          · rcases z2 with z | z | z
            · have := z.1; rw [c1] at this; cases this
            · exact Or.inr ⟨by omega, z1, z.2.1, by rw [← hss]; exact z.2.2.2⟩
            · have := z.1; rw [c1] at this; cases this
      | succ m ih =>
        intro e I1 N1 l2 l3 l4 l9 l10 hm hbe he hN1 hNb1 hf hh
        have hcell : 625 * s + 25 * b + e < 5000 := by omega
        have hHe := hM _ hcell
        have hNe := hNb1 e (by omega)
        refine v270_88 hp ?_
        rw [show (25 : Int32) = ni 25 from rfl, ni_mul, show (ni (25 * d)).toNatClampNeg = 25 * d from ni_nat (by omega), hf 183 _ (by omega), hT.1, if_neg (fun z => absurd ((ni_lt (by omega) (by omega)).mp z) (by omega)), ni_p1 (eP p k), show (ni (eP p k + 1)).toNatClampNeg = eP p k + 1 from ni_nat (by omega), show I1 167 = w by rw [← hg]; funext k; exact hf _ _ (by omega), se, show (8 : Int32) = ni 8 from rfl, show (625 : Int32) = ni 625 from rfl, ni_mul, ni_mul, ni_add, ni_mul, ni_add, ni_add, show (ni ((d * 8 + s) * 625 + b * 25 + e)).toNatClampNeg = 5000 * d + (625 * s + 25 * b + e) by rw [ni_nat (by omega)]; omega, hf 184 _ (by omega), hH _ hcell, show (ni e).toNatClampNeg = e from ni_nat (by omega), hN1 e (by omega), ni_p1 e, ni_p1 (H (625 * s + 25 * b + e))]
        refine ⟨ni_in (by omega) (by omega), ni_in (by omega) (by omega), ni_in (by omega) (by omega), ?_⟩
        have hlo : ∀ h, lo (hC H) h s b e ↔ (0 < H (625 * s + 25 * b + e) ∧ H (625 * s + 25 * b + e) ≤ h) := fun h => Iff.rfl
        generalize hxx : H (625 * s + 25 * b + e) = x at *
        -- nothing new
        have same : ∀ (l9 l10 : Option Value), (∀ h, h0 ≤ h + 1 → (0 < x ∧ x ≤ h) → (0 < N1 e ∧ N1 e ≤ h + 1)) → am_go none (d0 + 3) 270 (88, [some (.ref 163), some (.int (ni d)), l2, l3, l4, some (.int (ni h0)), some (.int (ni (eP p k))), some (.int (ni b)), some (.int (ni (e + 1))), l9, l10], [], (am_SH, I1, J, Pf), 0, 0) P := by
          intro l9 l10 hn
          refine ih (e + 1) I1 N1 _ _ _ _ _ (by omega) (by omega) (by omega) hN1 hNb1 hf (fun j hj h => ?_)
          rw [hh j hj h]
          constructor
          · rintro (z | ⟨z1, z2⟩)
            · exact Or.inl z
            · exact Or.inr ⟨by omega, z2⟩
          · rintro (z | ⟨z1, z2, z3, z4⟩)
            · exact Or.inl z
            · by_cases ej : j = e
              · subst ej
                have := hn h z2 ((hlo h).mp z4)
                exact (hh j hj h).mp this
              · exact Or.inr ⟨by omega, z2, z3, z4⟩
        -- a lower height
        have new : ∀ (y : Nat) (l9 : Option Value), y ≤ M + 1 → 0 < x → y = (if x + 1 ≤ h0 then h0 else x + 1) → (N1 e = 0 ∨ y < N1 e) → am_go none (d0 + 3) 270 (172, [some (.ref 163), some (.int (ni d)), l2, l3, l4, some (.int (ni h0)), some (.int (ni (eP p k))), some (.int (ni b)), some (.int (ni e)), l9, some (.int (ni y))], [], (am_SH, I1, J, Pf), 0, 0) P := by
          intro y l9 hy hx hye hlow
          have hy0 : 0 < y := by rw [hye]; split <;> omega
          refine v270_172 hp ?_
          rw [show (ni e).toNatClampNeg = e from ni_nat (by omega), ni_p1]
          refine ⟨ni_in (by omega) (by omega), ih (e + 1) _ _ _ _ _ _ _ (by omega) (by omega) (by omega) (hN1.set (by omega)) (fun j hj => ?_) (fun o k ho => (am_u_nq (by omega)).trans (hf o k ho)) (fun j hj h => ?_)⟩
          · split
            · exact hy
            · exact hNb1 j hj
          · skip
            by_cases ej : j = e
            · subst ej
              rw [if_pos rfl]
              have := hh j hj h
              rw [hlo]
              have hxy : y ≤ h + 1 ↔ (h0 ≤ h + 1 ∧ x ≤ h) := by rw [hye]; split <;> omega
              constructor
              · rintro ⟨z1, z2⟩
                have := hxy.mp z2
                exact Or.inr ⟨by omega, this.1, hbe, hx, this.2⟩
              · rintro (z | ⟨z1, z2, z3, z4⟩)
                · have := this.mpr (Or.inl z)
                  omega
                · have := hxy.mpr ⟨z2, z4.2⟩
                  refine ⟨?_, this⟩
                  rw [hye]; split <;> omega
            · rw [if_neg ej, hh j hj h]
              constructor
              · rintro (z | ⟨z1, z2⟩)
                · exact Or.inl z
                · exact Or.inr ⟨by omega, z2⟩
              · rintro (z | ⟨z1, z2⟩)
                · exact Or.inl z
                · exact Or.inr ⟨by omega, z2⟩
        have bin : am_in (ni e) 25 = true := ni_in (by omega) (by omega)
        by_cases x0 : x = 0
        · rw [if_pos ((leq 0 (by omega) (by omega)).mpr x0)]
          exact same _ _ (fun h _ z => by omega)
        rw [if_neg (fun z => x0 ((leq 0 (by omega) (by omega)).mp z))]
        by_cases cx : x + 1 ≤ h0
        · rw [if_pos ((ni_le (by omega) (by omega)).mpr cx)]
          refine ⟨bin, ?_⟩
          by_cases n0 : N1 e = 0
          · rw [if_pos ((leq 0 (by omega) (by omega)).mpr n0)]
            exact new h0 _ h2 (by omega) (by rw [if_pos cx]) (Or.inl n0)
          rw [if_neg (fun z => n0 ((leq 0 (by omega) (by omega)).mp z))]
          refine ⟨bin, ?_⟩
          by_cases cn : N1 e ≤ h0
          · rw [if_pos ((ni_le (by omega) (by omega)).mpr cn)]
            exact same _ _ (fun h z1 z2 => by omega)
          · rw [if_neg (fun z => cn ((ni_le (by omega) (by omega)).mp z))]
            exact new h0 _ h2 (by omega) (by rw [if_pos cx]) (Or.inr (by omega))
        · rw [if_neg (fun z => cx ((ni_le (by omega) (by omega)).mp z))]
          refine ⟨bin, ?_⟩
          by_cases n0 : N1 e = 0
          · rw [if_pos ((leq 0 (by omega) (by omega)).mpr n0)]
            exact new (x + 1) _ (by omega) (by omega) (by rw [if_neg cx]) (Or.inl n0)
          rw [if_neg (fun z => n0 ((leq 0 (by omega) (by omega)).mp z))]
          refine ⟨bin, ?_⟩
          by_cases cn : N1 e ≤ x + 1
          · rw [if_pos ((ni_le (by omega) (by omega)).mpr cn)]
            exact same _ _ (fun h z1 z2 => by omega)
          · rw [if_neg (fun z => cn ((ni_le (by omega) (by omega)).mp z))]
            exact new (x + 1) _ (by omega) (by omega) (by rw [if_neg cx]) (Or.inr (by omega))
    refine LP _ b I N _ _ _ _ _ rfl (Nat.le_refl _) (by omega) hN hNb (fun _ _ _ => rfl) (fun j hj h => ⟨fun z => Or.inl z, fun z => z.elim id (fun y => absurd y.1 (by omega))⟩)
  · rw [if_neg c1]
    refine sr_endof (d0 := d0 + 1) hp hG hd hg hT hTo hpp hk c1 (by omega) (fun _ _ _ => False) (fun e he => ?_) (fun he => ?_)
    · have hle := prE_le hG he
      have huq : ∀ h j, prE w T (lo (hC H) h) p k b j ↔ j = e := by
        intro h j
        constructor
        · intro g
          rcases he with z | z | z
          · rcases g with y | y | y
            · omega
            · exact absurd y.1 c1
            · have := y.1; rw [z.1] at this; cases this
          · exact absurd z.1 c1
          · rcases g with y | y | y
            · have := y.1; rw [z.1] at this; cases this
            · exact absurd y.1 c1
            · omega
        · rintro rfl; exact prE_k c1 he
      have hNe := hNb e (by omega)
      refine am_back (v270_44 hp rfl ?_)
      rw [if_neg (ni_neg1 (by omega)), show (ni e).toNatClampNeg = e from ni_nat (by omega), hN e (by omega)]
      have bin : am_in (ni e) 25 = true := ni_in (by omega) (by omega)
      refine ⟨bin, ?_⟩
      have new : (N e = 0 ∨ h0 < N e) → P (.inl none, (am_SH, am_u I 189 e (ni h0), J, Pf), 0, 0) := by
        intro hlow
        refine kk _ _ (hN.set (by omega)) (fun j hj => ?_) (fun j hj h => ?_) (fun o k ho => am_u_nq (by omega))
        · split
          · exact h2
          · exact hNb j hj
        · skip
          rw [huq]
          by_cases ej : j = e
          · subst ej
            rw [if_pos rfl]
            omega
          · rw [if_neg ej]
            constructor
            · intro z; exact Or.inl z
            · rintro (z | z)
              · exact z
              · exact absurd z.2 ej
      by_cases n0 : N e = 0
      · rw [if_pos ((leq 0 (by omega) (by omega)).mpr n0)]
        exact ⟨bin, new (Or.inl n0)⟩
      rw [if_neg (fun z => n0 ((leq 0 (by omega) (by omega)).mp z))]
      refine ⟨bin, ?_⟩
      by_cases cn : N e ≤ h0
      · rw [if_pos ((ni_le (by omega) (by omega)).mpr cn)]
        refine kk I N hN hNb (fun j hj h => ?_) (fun _ _ _ => rfl)
        rw [huq]
        constructor
        · intro z; exact Or.inl z
        · rintro (z | z)
          · exact z
          · have := z.2
            subst this
            omega
      · rw [if_neg (fun z => cn ((ni_le (by omega) (by omega)).mp z))]
        exact ⟨bin, new (Or.inr (by omega))⟩
    · refine am_back (v270_44 hp rfl ?_)
      rw [if_pos rfl]
      refine kk I N hN hNb (fun j hj h => ⟨fun z => Or.inl z, fun z => z.elim id (fun y => absurd (prE_k c1 y.2) (he j))⟩) (fun _ _ _ => rfl)
/-- along a production -/
theorem sr_along (hp : am_PF Pf) (hG : WG w) {d : Nat} (hd : d ≤ 3) {I : am_I} (hg : I 167 = w) (hT : rTd d I T) (hTo : txOK T) {H : Nat → Nat} {M : Nat} (hH : rHi d I H) (hM : hBd H M) (hM2 : M ≤ 100000) {p i : Nat} (hpp : p < wN w 1) (hi : i ≤ T.1)
    (kk : ∀ I' A, r25 I' 188 A → alo w T H M p i (wN w (32 + 3 * p + 2)) A → (∀ o k, o ≠ 188 → o ≠ 189 → I' o k = I o k) → P (.inl none, (am_SH, I', J, Pf), 0, 0)) : am_mth (d0 + 5) 267 [.ref 163, .int (ni d), .int (ni p), .int (ni i)] (am_SH, I, J, Pf) P := by
  have h24 := hT.2.1
  have w1' := hG.1.2.1.2
  obtain ⟨-, -, hc4, hce, -, -⟩ := hG.pr hpp
  -- the row laid anew
  have LC : ∀ (m k c : Nat) (I1 : am_I) (A N : Nat → Nat), 25 - c = m → c ≤ 25 → r25 I1 189 N → (∀ j, j < c → I1 188 j = ni (N j)) → (∀ o k, o ≠ 188 → o ≠ 189 → I1 o k = I o k) → (∀ I', r25 I' 188 N → (∀ o k, o ≠ 188 → o ≠ 189 → I' o k = I o k) → ∀ l5, am_go none (d0 + 4) 267 (37, [some (.ref 163), some (.int (ni d)), some (.int (ni p)), some (.int (ni i)), some (.int (ni (k + 1))), l5], [], (am_SH, I', J, Pf), 0, 0) P) → am_go none (d0 + 4) 267 (128, [some (.ref 163), some (.int (ni d)), some (.int (ni p)), some (.int (ni i)), some (.int (ni k)), some (.int (ni c))], [], (am_SH, I1, J, Pf), 0, 0) P := by
    intro m
    induction m with
    | zero =>
      intro k c I1 A N hm hc hN hA hf kk
      have : c = 25 := by omega
      subst this
      refine v267_128 hp ?_
      rw [if_pos ((gle 25 (by omega) (by omega)).mpr (by omega)), ni_p1]
      exact kk I1 hA hf _
    | succ m ih =>
      intro k c I1 A N hm hc hN hA hf kk
      refine v267_128 hp ?_
      rw [if_neg (fun z => absurd ((gle 25 (by omega) (by omega)).mp z) (by omega)), show (ni c).toNatClampNeg = c from ni_nat (by omega), hN c (by omega), ni_p1 c]
      refine ⟨ni_in (by omega) (by omega), ni_in (by omega) (by omega), ih k (c + 1) _ A N (by omega) (by omega) (fun j hj => by rw [am_u_nq (by omega)]; exact hN j hj) (fun j hj => ?_) (fun o k h1 h2 => (am_u_nq (by omega)).trans (hf o k h1 h2)) kk⟩
      by_cases e : j = c
      · subst e; exact am_u_same
      · rw [am_u_nq (by omega)]; exact hA j (by omega)
  -- one part from all places
  have LP : ∀ (m k e : Nat) (I1 : am_I) (A N : Nat → Nat), T.1 + 1 - e = m → i ≤ e → e ≤ T.1 + 1 → k < wN w (32 + 3 * p + 2) → r25 I1 188 A → alo w T H M p i k A → r25 I1 189 N → (∀ j, j < 25 → N j ≤ M + 1) → (∀ o k, o ≠ 188 → o ≠ 189 → I1 o k = I o k) → (∀ j, j < 25 → ∀ h, (0 < N j ∧ N j ≤ h + 1) ↔ ∃ a, a < e ∧ rch w T (lo (hC H) h) p i k a ∧ prE w T (lo (hC H) h) p k (bgW w T p k a) j) → (∀ I' A', r25 I' 188 A' → alo w T H M p i (k + 1) A' → (∀ o k, o ≠ 188 → o ≠ 189 → I' o k = I o k) → ∀ l5, am_go none (d0 + 4) 267 (37, [some (.ref 163), some (.int (ni d)), some (.int (ni p)), some (.int (ni i)), some (.int (ni (k + 1))), l5], [], (am_SH, I', J, Pf), 0, 0) P) → am_go none (d0 + 4) 267 (82, [some (.ref 163), some (.int (ni d)), some (.int (ni p)), some (.int (ni i)), some (.int (ni k)), some (.int (ni e))], [], (am_SH, I1, J, Pf), 0, 0) P := by
    intro m
    induction m with
    | zero =>
      intro k e I1 A N hm hie he hk hA ha hN hNb hf hh kk
      have : e = T.1 + 1 := by omega
      subst this
      refine v267_82 hp ?_
      rw [show (25 : Int32) = ni 25 from rfl, ni_mul, show (ni (25 * d)).toNatClampNeg = 25 * d from ni_nat (by omega), hf 183 _ (by omega) (by omega), hT.1, if_pos ((ni_lt (by omega) (by omega)).mpr (by omega)), show (0 : Int32) = ni 0 from rfl]
      refine ⟨ni_in (by omega) (by omega), LC _ k 0 I1 A N rfl (by omega) hN (fun j hj => absurd hj (by omega)) hf (fun I' hN' hf' l5 => kk I' N hN' ⟨fun j hj h => ?_, hNb⟩ hf' l5)⟩
      rw [hh j hj h]
      constructor
      · rintro ⟨a, -, z⟩; exact ⟨a, z⟩
      · rintro ⟨a, z1, z2⟩
        have := rch_le hG hi k a z1
        exact ⟨a, by omega, z1, z2⟩
    | succ m ih =>
      intro k e I1 A N hm hie he hk hA ha hN hNb hf hh kk
      have hAe := ha.2 e (by omega)
      have ex : ∀ j h, (∃ a, a < e + 1 ∧ rch w T (lo (hC H) h) p i k a ∧ prE w T (lo (hC H) h) p k (bgW w T p k a) j) ↔ ((∃ a, a < e ∧ rch w T (lo (hC H) h) p i k a ∧ prE w T (lo (hC H) h) p k (bgW w T p k a) j) ∨ (rch w T (lo (hC H) h) p i k e ∧ prE w T (lo (hC H) h) p k (bgW w T p k e) j)) := by
        intro j h
        constructor
        · rintro ⟨a, z1, z2⟩
          by_cases c : a = e
          · subst c; exact Or.inr z2
          · exact Or.inl ⟨a, by omega, z2⟩
        · rintro (⟨a, z1, z2⟩ | z)
          · exact ⟨a, by omega, z2⟩
          · exact ⟨e, by omega, z⟩
      refine v267_82 hp ?_
      rw [show (25 : Int32) = ni 25 from rfl, ni_mul, show (ni (25 * d)).toNatClampNeg = 25 * d from ni_nat (by omega), hf 183 _ (by omega) (by omega), hT.1, if_neg (fun z => absurd ((ni_lt (by omega) (by omega)).mp z) (by omega)), show (ni e).toNatClampNeg = e from ni_nat (by omega), hA e (by omega), ni_p1 e]
      refine ⟨ni_in (by omega) (by omega), ni_in (by omega) (by omega), ?_⟩
      by_cases c : A e = 0
      · rw [if_pos ((lle 0 (by omega) (by omega)).mpr (by omega))]
        refine ih k (e + 1) I1 A N (by omega) (by omega) (by omega) hk hA ha hN hNb hf (fun j hj h => ?_) kk
        rw [hh j hj h, ex]
        constructor
        · intro z; exact Or.inl z
        · rintro (z | z)
          · exact z
          · have := (ha.1 e (by omega) h).mpr z.1
            omega
      · rw [if_neg (fun z => absurd ((lle 0 (by omega) (by omega)).mp z) (by omega))]
        refine ⟨ni_in (by omega) (by omega), ?_⟩
        have hI : ∀ o k, o ≠ 188 → o ≠ 189 → I1 o k = I o k := hf
        refine sr_goes (d0 := d0) hp hG hd (by rw [← hg]; funext k; exact hf _ _ (by omega) (by omega)) ⟨by rw [hf _ _ (by omega) (by omega)]; exact hT.1, h24, fun j hj => by rw [hf _ _ (by omega) (by omega)]; exact hT.2.2 j hj⟩ hTo (fun c hc => by rw [hf _ _ (by omega) (by omega)]; exact hH c hc) hM hM2 hN hNb hpp hk (by omega) (by omega) hAe (fun I' N' n1 n2 n3 n4 => am_back (v267_119 hp ?_))
        rw [ni_p1]
        refine ih k (e + 1) I' A N' (by omega) (by omega) (by omega) hk (fun j hj => by rw [n4 _ _ (by omega)]; exact hA j hj) ha n1 n2 (fun o k h1 h2 => (n4 o k h2).trans (hf o k h1 h2)) (fun j hj h => ?_) kk
        rw [n3 j hj h, hh j hj h, ex]
        have := ha.1 e (by omega) h
        constructor
        · rintro (z | ⟨z1, z2⟩)
          · exact Or.inl z
          · exact Or.inr ⟨this.mp ⟨by omega, z1⟩, z2⟩
        · rintro (z | ⟨z1, z2⟩)
          · exact Or.inl z
          · exact Or.inr ⟨(this.mpr z1).2, z2⟩
  -- the next row emptied
  have LZ : ∀ (m k c : Nat) (I1 : am_I) (A : Nat → Nat), 25 - c = m → c ≤ 25 → k < wN w (32 + 3 * p + 2) → r25 I1 188 A → alo w T H M p i k A → (∀ j, j < c → I1 189 j = 0) → (∀ o k, o ≠ 188 → o ≠ 189 → I1 o k = I o k) → (∀ I' A', r25 I' 188 A' → alo w T H M p i (k + 1) A' → (∀ o k, o ≠ 188 → o ≠ 189 → I' o k = I o k) → ∀ l5, am_go none (d0 + 4) 267 (37, [some (.ref 163), some (.int (ni d)), some (.int (ni p)), some (.int (ni i)), some (.int (ni (k + 1))), l5], [], (am_SH, I', J, Pf), 0, 0) P) → am_go none (d0 + 4) 267 (58, [some (.ref 163), some (.int (ni d)), some (.int (ni p)), some (.int (ni i)), some (.int (ni k)), some (.int (ni c))], [], (am_SH, I1, J, Pf), 0, 0) P := by
    intro m
    induction m with
    | zero =>
      intro k c I1 A hm hc hk hA ha hz hf kk
      have : c = 25 := by omega
      subst this
      refine v267_58 hp ?_
      rw [if_pos ((gle 25 (by omega) (by omega)).mpr (by omega))]
      refine LP _ k i I1 A (fun _ => 0) rfl (Nat.le_refl _) (by omega) hk hA ha hz (fun j hj => Nat.zero_le _) hf (fun j hj h => ?_) kk
      constructor
      · intro z; exact absurd z.1 (by omega)
      · rintro ⟨a, z1, z2, z3⟩
        have := rch_le hG hi k a z2
        omega
    | succ m ih =>
      intro k c I1 A hm hc hk hA ha hz hf kk
      refine v267_58 hp ?_
      rw [if_neg (fun z => absurd ((gle 25 (by omega) (by omega)).mp z) (by omega)), show (ni c).toNatClampNeg = c from ni_nat (by omega), ni_p1 c]
      refine ⟨ni_in (by omega) (by omega), ih k (c + 1) _ A (by omega) (by omega) hk (fun j hj => by rw [am_u_nq (by omega)]; exact hA j hj) ha (fun j hj => ?_) (fun o k h1 h2 => (am_u_nq (by omega)).trans (hf o k h1 h2)) kk⟩
      by_cases e : j = c
      · subst e; exact am_u_same
      · rw [am_u_nq (by omega)]; exact hz j (by omega)
  have LK : ∀ (m k : Nat) (I1 : am_I) (A : Nat → Nat) (l5 : Option Value), wN w (32 + 3 * p + 2) - k = m → k ≤ wN w (32 + 3 * p + 2) → r25 I1 188 A → alo w T H M p i k A → (∀ o k, o ≠ 188 → o ≠ 189 → I1 o k = I o k) → am_go none (d0 + 4) 267 (37, [some (.ref 163), some (.int (ni d)), some (.int (ni p)), some (.int (ni i)), some (.int (ni k)), l5], [], (am_SH, I1, J, Pf), 0, 0) P := by
    intro m
    induction m with
    | zero =>
      intro k I1 A l5 hm hk hA ha hf
      have : k = wN w (32 + 3 * p + 2) := by omega
      subst this
      refine v267_37 hp ?_
      rw [show (3 : Int32) = ni 3 from rfl, ni_mul, show (32 : Int32) + ni (3 * p) = ni (32 + 3 * p) from ni_add 32 _, ni_p2, show (ni (32 + 3 * p + 2)).toNatClampNeg = 32 + 3 * p + 2 from ni_nat (by omega), show I1 167 = w by rw [← hg]; funext k; exact hf _ _ (by omega) (by omega), hce, if_pos ((ni_le (by omega) (by omega)).mpr (Nat.le_refl _))]
      exact ⟨ni_in (by omega) (by omega), kk I1 A hA ha hf⟩
    | succ m ih =>
      intro k I1 A l5 hm hk hA ha hf
      refine v267_37 hp ?_
      rw [show (3 : Int32) = ni 3 from rfl, ni_mul, show (32 : Int32) + ni (3 * p) = ni (32 + 3 * p) from ni_add 32 _, ni_p2, show (ni (32 + 3 * p + 2)).toNatClampNeg = 32 + 3 * p + 2 from ni_nat (by omega), show I1 167 = w by rw [← hg]; funext k; exact hf _ _ (by omega) (by omega), hce, if_neg (fun z => absurd ((ni_le (by omega) (by omega)).mp z) (by omega)), show (0 : Int32) = ni 0 from rfl]
      exact ⟨ni_in (by omega) (by omega), LZ _ k 0 I1 A rfl (by omega) (by omega) hA ha (fun j hj => absurd hj (by omega)) hf (fun I' A' a1 a2 a3 l5 => ih (k + 1) I' A' l5 (by omega) (by omega) a1 a2 a3)⟩
  have LI : ∀ (m c : Nat) (I1 : am_I) (l5 : Option Value), 25 - c = m → c ≤ 25 → (∀ j, j < c → I1 188 j = ni (if j = i then 1 else 0)) → (∀ o k, o ≠ 188 → o ≠ 189 → I1 o k = I o k) → am_go none (d0 + 4) 267 (3, [some (.ref 163), some (.int (ni d)), some (.int (ni p)), some (.int (ni i)), some (.int (ni c)), l5], [], (am_SH, I1, J, Pf), 0, 0) P := by
    intro m
    induction m with
    | zero =>
      intro c I1 l5 hm hc hA hf
      have : c = 25 := by omega
      subst this
      refine v267_3 hp ?_
      rw [if_pos ((gle 25 (by omega) (by omega)).mpr (by omega)), show (0 : Int32) = ni 0 from rfl]
      refine LK _ 0 I1 (fun j => if j = i then 1 else 0) _ rfl (Nat.zero_le _) hA ⟨fun j hj h => ?_, fun j hj => by dsimp only; split <;> omega⟩ hf
      dsimp only
      show _ ↔ j = i
      split <;> omega
    | succ m ih =>
      intro c I1 l5 hm hc hA hf
      refine v267_3 hp ?_
      rw [if_neg (fun z => absurd ((gle 25 (by omega) (by omega)).mp z) (by omega)), show (ni c).toNatClampNeg = c from ni_nat (by omega), ni_p1 c]
      have bin : am_in (ni c) 25 = true := ni_in (by omega) (by omega)
      by_cases e : c = i
      · rw [if_pos ((ni_inj (by omega) (by omega)).mpr e)]
        refine ⟨bin, ih (c + 1) _ _ (by omega) (by omega) (fun j hj => ?_) (fun o k h1 h2 => (am_u_nq (by omega)).trans (hf o k h1 h2))⟩
        by_cases ej : j = c
        · subst ej; rw [am_u_same, if_pos e]; rfl
        · rw [am_u_nq (by omega)]; exact hA j (by omega)
      · rw [if_neg (fun z => e ((ni_inj (by omega) (by omega)).mp z))]
        refine ⟨bin, ih (c + 1) _ _ (by omega) (by omega) (fun j hj => ?_) (fun o k h1 h2 => (am_u_nq (by omega)).trans (hf o k h1 h2))⟩
        by_cases ej : j = c
        · subst ej; rw [am_u_same, if_neg e]; rfl
        · rw [am_u_nq (by omega)]; exact hA j (by omega)
  refine am_mth_of rfl rfl (v267_0 hp ?_)
  rw [show (0 : Int32) = ni 0 from rfl]
  exact LI _ 0 I _ rfl (by omega) (fun j hj => absurd hj (by omega)) (fun _ _ _ _ => rfl)
end RHI
