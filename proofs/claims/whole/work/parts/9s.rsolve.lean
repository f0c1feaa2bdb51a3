/-! The reference solves a level, bodies first -/
/-- whether a body is of a sort, as a text within -/
def bqx (w : Nat → Int32) (k : Nat) (B : TX) (t : Nat) : Prop := match k with
  | 0 => False
  | k + 1 => 0 < HHx w k B t 0 B.1
theorem QQx_bqx {w : Nat → Int32} {k : Nat} {T : TX} {q i e : Nat} : QQx w k T q i e ↔ ∃ B, unq w T q i = some (B, e) ∧ bqx w k B (wN w (972 + 5 * q + 1)) := by
  cases k with
  | zero => exact ⟨fun h => h.elim, fun ⟨B, _, h⟩ => h⟩
  | succ k => exact Iff.rfl
def rQe (d : Nat) (I : am_I) (n : Nat) (Q : Nat → Nat → Nat → Prop) (q i : Nat) : Prop := (I 186 ((4 * d + q) * 24 + i) = 1 ∧ ∃ e, i ≤ e ∧ e ≤ n ∧ I 185 ((4 * d + q) * 24 + i) = ni e ∧ ∀ e', Q q i e' ↔ e' = e) ∨ (I 186 ((4 * d + q) * 24 + i) = 0 ∧ ∀ e', ¬ Q q i e')
theorem rQe.of {d n q i : Nat} {I I' : am_I} {Q : Nat → Nat → Nat → Prop} (h : rQe d I n Q q i) (e1 : I' 186 ((4 * d + q) * 24 + i) = I 186 ((4 * d + q) * 24 + i)) (e2 : I' 185 ((4 * d + q) * 24 + i) = I 185 ((4 * d + q) * 24 + i)) : rQe d I' n Q q i := by
  unfold rQe
  rw [e1, e2]
  exact h
section SLW
variable {J : am_J} {Pf : am_R} {w : Nat → Int32}
/-- solving, said of a level -/
def rSLV (J : am_J) (Pf : am_R) (w : Nat → Int32) (k d : Nat) : Prop := ∀ (P : am_O → Prop) (D : Nat) (I : am_I) (T : TX), 20 * (k + 1) ≤ D → I 167 = w → nmR I 171 (lyW w 64) → rTd d I T → txOK T → rCa I w → (∀ I', rSd d I' w k T → rCa I' w → rSf d I I' → P (.inl none, (am_SH, I', J, Pf), 0, 0)) → am_mth D 263 [.ref 163, .int (ni d)] (am_SH, I, J, Pf) P
/-- a body's sorts, said of a level -/
def rSRT (J : am_J) (Pf : am_R) (w : Nat → Int32) (k d : Nat) : Prop := ∀ (P : am_O → Prop) (D : Nat) (I : am_I) (B : TX), 20 * k + 8 ≤ D → I 167 = w → nmR I 171 (lyW w 64) → rTd d I B → txOK B → rCa I w → (∀ I' v, bts v (fun t => t < 8 ∧ bqx w k B t) → rCa I' w → rSf d I I' → P (.inl (some (.int v)), (am_SH, I', J, Pf), 0, 0)) → am_mth D 261 [.ref 163, .int (ni d)] (am_SH, I, J, Pf) P
theorem rSRT_0 (hp : am_PF Pf) : rSRT J Pf w 0 4 := by
  intro P D I B hD hg hly hT hTo hC kk
  obtain ⟨D', rfl⟩ : ∃ D', D = D' + 1 := ⟨D - 1, by omega⟩
  refine am_mth_of rfl rfl (v261_0 hp ?_)
  rw [if_neg (by decide)]
  exact kk I 0 (bts_0 (fun j _ z => z.2)) hC rSf.rfl'
theorem rSRT_s (hp : am_PF Pf) (hG : WG w) (hs : sndW w) {k d : Nat} (hd : d + k = 3) (hd1 : 1 ≤ d) (hV : rSLV J Pf w k d) : rSRT J Pf w (k + 1) d := by
  intro P D I B hD hg hly hT hTo hC kk
  obtain ⟨D', rfl⟩ : ∃ D', D = D' + 8 := ⟨D - 8, by omega⟩
  have h24 := hT.2.1
  obtain ⟨c, hc6, hc, hE⟩ := id hC
  -- a new entry
  have LN : ∀ (m i y : Nat) (v : Int32) (I1 : am_I) , 25 - i = m → i ≤ 25 → y < 600 → bts v (fun t => t < 8 ∧ bqx w (k + 1) B t) → rSf d I I1 → I1 163 48 = ni y → (∀ e, e < y → ∃ d B, 1 ≤ d ∧ d ≤ 3 ∧ txOK B ∧ I1 187 (27 * e) = ni d ∧ I1 187 (27 * e + 1) = ni B.1 ∧ (∀ i, i < B.1 → I1 187 (27 * e + 2 + i) = B.2 i) ∧ bts (I1 187 (27 * e + 26)) (fun s => s < 8 ∧ 0 < HHx w (3 - d) B s 0 B.1)) → I1 187 (27 * y) = ni d → (∀ j, j < i → I1 187 (27 * y + 1 + j) = I1 183 (25 * d + j)) → am_go none (D' + 7) 261 (91, [some (.ref 163), some (.int (ni d)), some (.int v), some (.int (ni (27 * y))), some (.int (ni i))], [], (am_SH, I1, J, Pf), 0, 0) P := by
    intro m
    induction m with
    | zero =>
      intro i y v I1 hm hi hy hv hf h48 hE1 hd0 hcp
      have : i = 25 := by omega
      subst this
      have hT1 := hT.ofS hf (Nat.le_refl _)
      refine v261_91 hp ?_
      rw [if_pos ((gle 25 (by omega) (by omega)).mpr (by omega)), show (27 : Int32) = ni 27 from rfl, ni_add, show (1 : Int32) = ni 1 from rfl, ni_sub (by omega), show (ni (27 * y + 27 - 1)).toNatClampNeg = 27 * y + 26 by rw [ni_nat (by omega)]; omega, h48, ni_add]
      refine ⟨ni_in (by omega) (by omega), kk _ v hv ⟨y + 1, by omega, am_u_same, fun e he => ?_⟩ (fun o j e1 e2 e3 e4 e5 => by rw [am_u_nq (by omega), am_u_nq (by omega)]; exact hf o j e1 e2 e3 e4 e5)⟩
      by_cases ey : e = y
      · subst ey
        refine ⟨d, B, hd1, by omega, hTo, ?_, ?_, fun j hj => ?_, ?_⟩
        · rw [am_u_nq (by omega), am_u_nq (by omega)]; exact hd0
        · have := hcp 0 (by omega)
          rw [am_u_nq (by omega), am_u_nq (by omega)]
          rw [Nat.add_zero, Nat.add_zero] at this
          rw [this]; exact hT1.1
        · have := hcp (j + 1) (by omega)
          rw [am_u_nq (by omega), am_u_nq (by omega), show 27 * e + 2 + j = 27 * e + 1 + (j + 1) by omega, this, show 25 * d + (j + 1) = 25 * d + 1 + j by omega]
          exact hT1.2.2 j hj
        · rw [am_u_nq (by omega), am_u_same, show 3 - d = k by omega]
          exact hv
      · obtain ⟨d2, B2, g⟩ := hE1 e (by omega)
        refine ⟨d2, B2, g.1, g.2.1, g.2.2.1, ?_, ?_, fun j hj => ?_, ?_⟩
        · rw [am_u_nq (by omega), am_u_nq (by omega)]; exact g.2.2.2.1
        · rw [am_u_nq (by omega), am_u_nq (by omega)]; exact g.2.2.2.2.1
        · have := g.2.2.1.1
          rw [am_u_nq (by omega), am_u_nq (by omega)]; exact g.2.2.2.2.2.1 j hj
        · rw [am_u_nq (by omega), am_u_nq (by omega)]; exact g.2.2.2.2.2.2
    | succ m ih =>
      intro i y v I1 hm hi hy hv hf h48 hE1 hd0 hcp
      refine v261_91 hp ?_
      rw [if_neg (fun z => absurd ((gle 25 (by omega) (by omega)).mp z) (by omega)), show (25 : Int32) = ni 25 from rfl, ni_mul, ni_add, ni_p1 (27 * y), ni_add, show (ni (25 * d + i)).toNatClampNeg = 25 * d + i from ni_nat (by omega), show (ni (27 * y + 1 + i)).toNatClampNeg = 27 * y + 1 + i from ni_nat (by omega), ni_p1]
      refine ⟨ni_in (by omega) (by omega), ni_in (by omega) (by omega), ih (i + 1) y v _ (by omega) (by omega) hy hv (fun o j e1 e2 e3 e4 e5 => (am_u_nq (by omega)).trans (hf o j e1 e2 e3 e4 e5)) (by rw [am_u_nq (by omega)]; exact h48) (fun e he => ?_) (by rw [am_u_nq (by omega)]; exact hd0) (fun j hj => ?_)⟩
      · obtain ⟨d2, B2, g⟩ := hE1 e he
        refine ⟨d2, B2, g.1, g.2.1, g.2.2.1, ?_, ?_, fun j hj => ?_, ?_⟩
        · rw [am_u_nq (by omega)]; exact g.2.2.2.1
        · rw [am_u_nq (by omega)]; exact g.2.2.2.2.1
        · have := g.2.2.1.1
          rw [am_u_nq (by omega)]; exact g.2.2.2.2.2.1 j hj
        · rw [am_u_nq (by omega)]; exact g.2.2.2.2.2.2
      · rw [am_u_nq (o' := 183) (by omega)]
        by_cases ej : j = i
        · subst ej; rw [am_u_same]
        · rw [am_u_nq (by omega)]; exact hcp j (by omega)
  have LE : ∀ (m e : Nat) (l3 l4 : Option Value), c - e = m → e ≤ c → am_go none (D' + 7) 261 (9, [some (.ref 163), some (.int (ni d)), some (.int (ni e)), l3, l4], [], (am_SH, I, J, Pf), 0, 0) P := by
    intro m
    induction m with
    | zero =>
      intro e l3 l4 hm he
      have : e = c := by omega
      subst this
      refine v261_9 hp ?_
      rw [hc, if_pos ((ni_le (by omega) (by omega)).mpr (Nat.le_refl _))]
      refine hV _ (D' + 7) I B (by omega) hg hly hT hTo hC (fun I1 s1 c1 f1 => am_back (v261_52 hp ?_))
      obtain ⟨⟨H, hH1, hHb, hH2⟩, -⟩ := id s1
      obtain ⟨cc, hcc6, hcc, hcE⟩ := c1
      have hT1 := hT.ofS f1 (Nat.le_refl _)
      -- heights are bounded by what they are
      refine sr_wholeof (M := 5000) (d0 := D' + 4) hp (by omega) hT1 hH1 hHb (by omega) (fun v hv => am_back (v261_57 hp ?_))
      have hv2 : bts v (fun t => t < 8 ∧ bqx w (k + 1) B t) := hv.of (fun s _ => by
        constructor
        · rintro ⟨z1, z2⟩
          rw [hH2 s 0 B.1 z1 (by omega) (by omega), if_pos ⟨Nat.zero_le _, Nat.le_refl _⟩] at z2
          exact ⟨z1, z2⟩
        · rintro ⟨z1, z2⟩
          rw [hH2 s 0 B.1 z1 (by omega) (by omega), if_pos ⟨Nat.zero_le _, Nat.le_refl _⟩]
          exact ⟨z1, z2⟩)
      have FIN : ∀ (y : Nat) (I2 : am_I) (l3 l4 : Option Value), y < 600 → rSf d I I2 → I2 163 48 = ni y → (∀ e, e < y → ∃ d B, 1 ≤ d ∧ d ≤ 3 ∧ txOK B ∧ I2 187 (27 * e) = ni d ∧ I2 187 (27 * e + 1) = ni B.1 ∧ (∀ i, i < B.1 → I2 187 (27 * e + 2 + i) = B.2 i) ∧ bts (I2 187 (27 * e + 26)) (fun s => s < 8 ∧ 0 < HHx w (3 - d) B s 0 B.1)) → am_go none (D' + 7) 261 (73, [some (.ref 163), some (.int (ni d)), some (.int v), l3, l4], [], (am_SH, I2, J, Pf), 0, 0) P := by
        intro y I2 l3 l4 hy f2 h48 hE2
        refine v261_73 hp ?_
        rw [h48, show (27 : Int32) = ni 27 from rfl, ni_mul, show (ni (27 * y)).toNatClampNeg = 27 * y from ni_nat (by omega), show (0 : Int32) = ni 0 from rfl]
        refine ⟨ni_in (by omega) (by omega), LN _ 0 y v _ rfl (by omega) hy hv2 (fun o j e1 e2 e3 e4 e5 => (am_u_nq (by omega)).trans (f2 o j e1 e2 e3 e4 e5)) (by rw [am_u_nq (by omega)]; exact h48) (fun e he => ?_) am_u_same (fun j hj => absurd hj (by omega))⟩
        obtain ⟨d2, B2, g⟩ := hE2 e he
        refine ⟨d2, B2, g.1, g.2.1, g.2.2.1, ?_, ?_, fun j hj => ?_, ?_⟩
        · rw [am_u_nq (by omega)]; exact g.2.2.2.1
        · rw [am_u_nq (by omega)]; exact g.2.2.2.2.1
        · have := g.2.2.1.1
          rw [am_u_nq (by omega)]; exact g.2.2.2.2.2.1 j hj
        · rw [am_u_nq (by omega)]; exact g.2.2.2.2.2.2
      rw [hcc]
      by_cases c6 : cc = 600
      · rw [if_pos ((leq 600 (by omega) (by omega)).mpr c6)]
        exact FIN 0 _ _ _ (by omega) (fun o j e1 e2 e3 e4 e5 => (am_u_nq (by omega)).trans (f1 o j e1 e2 e3 e4 e5)) am_u_same (fun e he => absurd he (by omega))
      · rw [if_neg (fun z => c6 ((leq 600 (by omega) (by omega)).mp z))]
        exact FIN cc I1 _ _ (by omega) f1 hcc hcE
    | succ m ih =>
      intro e l3 l4 hm he
      obtain ⟨d2, B2, g1, g2, g3, g4, g5, g6, g7⟩ := hE e (by omega)
      refine v261_9 hp ?_
      rw [hc, if_neg (fun z => absurd ((ni_le (by omega) (by omega)).mp z) (by omega))]
      refine sr_entry (d0 := D' + 5) hp (by omega) (by omega) hT g3 g2 g4 g5 g6 (fun e1 e2 e3 => am_back (v261_23 hp ?_)) (am_back (v261_23 hp ?_))
      · rw [if_neg (by decide), show (27 : Int32) = ni 27 from rfl, ni_mul, ni_add, show (1 : Int32) = ni 1 from rfl, ni_sub (by omega), show (ni (27 * e + 27 - 1)).toNatClampNeg = 27 * e + 26 by rw [ni_nat (by omega)]; omega]
        refine ⟨ni_in (by omega) (by omega), kk I _ (g7.of (fun s _ => ?_)) hC rSf.rfl'⟩
        rw [show 3 - d2 = k by omega]
        constructor
        · rintro ⟨z1, z2⟩
          refine ⟨z1, ?_⟩
          show 0 < HHx w k B s 0 B.1
          rw [← e2, ← HHx_ext hG hs e2 (fun i hi => e3 i (by omega)) s 0 B2.1 z1 (Nat.zero_le _) (Nat.le_refl _)]
          exact z2
        · rintro ⟨z1, z2⟩
          refine ⟨z1, ?_⟩
          have z3 : 0 < HHx w k B s 0 B.1 := z2
          rw [HHx_ext hG hs e2 (fun i hi => e3 i (by omega)) s 0 B2.1 z1 (Nat.zero_le _) (Nat.le_refl _), e2]
          exact z3
      · rw [if_pos rfl, ni_p1]
        exact ih (e + 1) _ _ (by omega) (by omega)
  refine am_mth_of rfl rfl (v261_0 hp ?_)
  rw [if_pos ((lle 3 (by omega) (by omega)).mpr (by omega)), show (0 : Int32) = ni 0 from rfl]
  exact LE _ 0 _ _ rfl (Nat.zero_le _)
/-- solving a level -/
theorem rSLV_s (hp : am_PF Pf) (hG : WG w) (hs : sndW w) {k d : Nat} (hd : d + k = 3) (hR : rSRT J Pf w k (d + 1)) : rSLV J Pf w k d := by
  intro P D I T hD hg hly hT hTo hCa kk
  obtain ⟨D', rfl⟩ : ∃ D', D = D' + 12 := ⟨D - 12, by omega⟩
  have h24 := hT.2.1
  obtain ⟨⟨-, w0'⟩, ⟨w1, w1'⟩, ⟨w2, w2'⟩, -, -, -⟩ := id hG.1
  have hS := HHx_sol hG hs k T
  have l7 := (lyW_least hG hs).2.2
  -- all heights nothing
  have LZ : ∀ (m c : Nat) (I1 : am_I) (l3 l4 : Option Value), 5000 - c = m → c ≤ 5000 → rSf d I I1 → rCa I1 w → (∀ q i, q < wN w 2 → i < 24 → rQe d I1 T.1 (QQx w k T) q i) → (∀ j, j < c → I1 184 (5000 * d + j) = 0) → am_go none (D' + 11) 263 (111, [some (.ref 163), some (.int (ni d)), some (.int (ni c)), l3, l4], [], (am_SH, I1, J, Pf), 0, 0) P := by
    intro m
    induction m with
    | zero =>
      intro c I1 l3 l4 hm hc hf hC1 hQ1 hz
      have : c = 5000 := by omega
      subst this
      refine v263_111 hp ?_
      rw [if_pos ((gle 5000 (by omega) (by omega)).mpr (by omega)), show (0 : Int32) = ni 0 from rfl]
      have hg1 : I1 167 = w := by rw [← hg]; funext y; exact hf _ _ (by omega) (by omega) (by omega) (by omega) (by omega)
      refine rr_layers9 (d0 := D' + 5) hp hG hs (by omega) hTo (fun q i e => QQx_lt) hS hg1 (fun s h8 => by rw [hf _ _ (by omega) (by omega) (by omega) (by omega) (by omega)]; exact hly s h8) (hT.ofS hf (Nat.le_refl _)) hQ1 (fun I2 H f2 h2 i2 => ?_) _ 0 I1 (fun _ => 0) _ _ rfl (Nat.zero_le _) rMf.rfl' hz (hIv.zero (fun _ _ => rfl))
      refine kk I2 ⟨⟨H, h2, fun c hc => Nat.le_trans (i2.2.2 c hc) (nzN_le H), fun s i j h8 hi hj => ?_⟩, (rQg.ofM (e := d) hQ1 f2)⟩ (hC1.ofM f2) (hf.trans (rSf.ofM f2))
      have := l7 s h8
      split
      · rename_i z
        exact i2.1 s i j h8 z.1 z.2 (by omega)
      · rename_i z
        by_cases c0 : hC H s i j = 0
        · exact c0
        · have := i2.2.1 s i j h8 hi hj (by omega)
          exact absurd ⟨this.1, this.2.1⟩ z
    | succ m ih =>
      intro c I1 l3 l4 hm hc hf hC1 hQ1 hz
      refine v263_111 hp ?_
      rw [if_neg (fun z => absurd ((gle 5000 (by omega) (by omega)).mp z) (by omega)), show (5000 : Int32) = ni 5000 from rfl, ni_mul, ni_add, show (ni (d * 5000 + c)).toNatClampNeg = 5000 * d + c by rw [ni_nat (by omega)]; omega, ni_p1]
      refine ⟨ni_in (by omega) (by omega), ih (c + 1) _ _ _ (by omega) (by omega) (fun o j e1 e2 e3 e4 e5 => (am_u_nq (by omega)).trans (hf o j e1 e2 e3 e4 e5)) (hC1.of (am_u_nq (by omega)) (fun _ => am_u_nq (by omega))) (fun q i hq hi => (hQ1 q i hq hi).of (am_u_nq (by omega)) (am_u_nq (by omega))) (fun j hj => ?_)⟩
      by_cases e : j = c
      · subst e; exact am_u_same
      · rw [am_u_nq (by omega)]; exact hz j (by omega)
  have LI : ∀ (m q i : Nat) (I1 : am_I) (l4 : Option Value), 24 - i = m → i ≤ 24 → q < wN w 2 → rSf d I I1 → rCa I1 w → (∀ q' i', q' < q → i' < 24 → rQe d I1 T.1 (QQx w k T) q' i') → (∀ i', i' < i → rQe d I1 T.1 (QQx w k T) q i') → (∀ I' l3 l4, rSf d I I' → rCa I' w → (∀ q' i', q' < q + 1 → i' < 24 → rQe d I' T.1 (QQx w k T) q' i') → am_go none (D' + 11) 263 (2, [some (.ref 163), some (.int (ni d)), some (.int (ni (q + 1))), l3, l4], [], (am_SH, I', J, Pf), 0, 0) P) → am_go none (D' + 11) 263 (14, [some (.ref 163), some (.int (ni d)), some (.int (ni q)), some (.int (ni i)), l4], [], (am_SH, I1, J, Pf), 0, 0) P := by
    intro m
    induction m with
    | zero =>
      intro q i I1 l4 hm hi hq hf hC1 hQ1 hQ2 kk
      have : i = 24 := by omega
      subst this
      refine v263_14 hp ?_
      rw [if_pos ((gle 24 (by omega) (by omega)).mpr (by omega)), ni_p1]
      refine kk I1 _ _ hf hC1 (fun q' i' h1 h2 => ?_)
      by_cases e : q' = q
      · subst e; exact hQ2 i' h2
      · exact hQ1 q' i' (by omega) h2
    | succ m ih =>
      intro q i I1 l4 hm hi hq hf hC1 hQ1 hQ2 kk
      have hT1 := hT.ofS hf (Nat.le_refl _)
      have hg1 : I1 167 = w := by rw [← hg]; funext y; exact hf _ _ (by omega) (by omega) (by omega) (by omega) (by omega)
      obtain ⟨-, -, t8, te⟩ := hG.qu hq
      -- behind one quote
      have nx : ∀ (I2 : am_I) (l4 : Option Value), rSf d I I2 → rCa I2 w → rQe d I2 T.1 (QQx w k T) q i → (∀ q' i', q' < 4 → i' < 24 → ¬ (q' = q ∧ i' = i) → I2 185 ((4 * d + q') * 24 + i') = I1 185 ((4 * d + q') * 24 + i') ∧ I2 186 ((4 * d + q') * 24 + i') = I1 186 ((4 * d + q') * 24 + i')) → am_go none (D' + 11) 263 (14, [some (.ref 163), some (.int (ni d)), some (.int (ni q)), some (.int (ni (i + 1))), l4], [], (am_SH, I2, J, Pf), 0, 0) P := by
        intro I2 l4 f2 c2 q2 g2
        refine ih q (i + 1) I2 l4 (by omega) (by omega) hq f2 c2 (fun q' i' h1 h2 => ?_) (fun i' h1 => ?_) kk
        · have := g2 q' i' (by omega) h2 (by omega)
          exact (hQ1 q' i' h1 h2).of this.2 this.1
        · by_cases e : i' = i
          · subst e; exact q2
          · have := g2 q i' (by omega) (by omega) (by omega)
            exact (hQ2 i' (by omega)).of this.2 this.1
      refine v263_14 hp ?_
      rw [if_neg (fun z => absurd ((gle 24 (by omega) (by omega)).mp z) (by omega)), show (4 : Int32) = ni 4 from rfl, show (24 : Int32) = ni 24 from rfl, ni_mul, ni_add, ni_mul, ni_add]
      have eK : (ni ((4 * d + q) * 24 + i)).toNatClampNeg = (4 * d + q) * 24 + i := ni_nat (by omega)
      have bK : am_in (ni ((4 * d + q) * 24 + i)) 384 = true := ni_in (by omega) (by omega)
      refine sr_unq (d0 := D' + 9) hp hG (by omega) hg1 hT1 hTo hq (by omega) ?_
      cases hu : unq w T q i with
      | none =>
        intro I2 u2
        refine am_back (v263_45 hp ?_)
        rw [eK, am_u_same, if_pos rfl, ni_p1]
        refine ⟨bK, bK, bK, nx _ _ ?_ ?_ (Or.inr ⟨am_u_same, fun e' z => ?_⟩) (fun q' i' h1 h2 h3 => ?_)⟩
        · intro o j e1 e2 e3 e4 e5
          rw [am_u_nq (by omega), am_u_nq (by omega)]
          exact (hf.trans (rSf.ofU u2)) o j e1 e2 e3 e4 e5
        · exact (hC1.ofU u2).of (by rw [am_u_nq (by omega), am_u_nq (by omega)]) (fun _ => by rw [am_u_nq (by omega), am_u_nq (by omega)])
        · obtain ⟨B, z1, -⟩ := QQx_bqx.mp z
          rw [hu] at z1; cases z1
        · rw [am_u_nq (by omega), am_u_nq (by omega), am_u_nq (by omega), am_u_nq (by omega), u2 _ _ (by omega), u2 _ _ (by omega)]
          exact ⟨rfl, rfl⟩
      | some z =>
        obtain ⟨B, e⟩ := z
        intro I2 b2' bo be u2
        have hub := unq_ok hTo hu
        refine am_back (v263_45 hp ?_)
        rw [eK, am_u_same, if_neg (ni_neg1 (by omega)), ni_p1 d]
        refine ⟨bK, bK, ?_⟩
        have f2 : rSf d I (am_u I2 185 ((4 * d + q) * 24 + i) (ni e)) := by
          intro o j e1 e2 e3 e4 e5
          rw [am_u_nq (by omega)]
          exact (hf.trans (rSf.ofU u2)) o j e1 e2 e3 e4 e5
        refine hR _ (D' + 11) _ B (by omega) (by rw [← hg1]; funext y; rw [am_u_nq (by omega)]; exact u2 _ _ (by omega)) (fun s h8 => by rw [f2 _ _ (by omega) (by omega) (by omega) (by omega) (by omega)]; exact hly s h8) ⟨by rw [am_u_nq (by omega)]; exact b2'.1, b2'.2.1, fun j hj => by rw [am_u_nq (by omega)]; exact b2'.2.2 j hj⟩ bo ((hC1.ofU u2).of (am_u_nq (by omega)) (fun _ => am_u_nq (by omega))) (fun I3 v hv c3 f3 => am_back (v263_70 hp ?_))
        have hI3 : rSf d I I3 := f2.trans (f3.lower (by omega))
        have hg3 : I3 167 = w := by rw [← hg]; funext y; exact hI3 _ _ (by omega) (by omega) (by omega) (by omega) (by omega)
        rw [hg3, show (5 : Int32) = ni 5 from rfl, ni_mul, show (972 : Int32) + ni (5 * q) = ni (972 + 5 * q) from ni_add 972 _, ni_p1, show (ni (972 + 5 * q + 1)).toNatClampNeg = 972 + 5 * q + 1 from ni_nat (by omega), te, eK, ni_p1 i]
        refine ⟨ni_in (by omega) (by omega), ?_⟩
        have h185 : I3 185 ((4 * d + q) * 24 + i) = ni e := by rw [f3 _ _ (by omega) (by omega) (by omega) (by omega) (by omega)]; exact am_u_same
        have hoth : ∀ (x : Int32) (q' i' : Nat), q' < 4 → i' < 24 → ¬ (q' = q ∧ i' = i) → am_u I3 186 ((4 * d + q) * 24 + i) x 185 ((4 * d + q') * 24 + i') = I1 185 ((4 * d + q') * 24 + i') ∧ am_u I3 186 ((4 * d + q) * 24 + i) x 186 ((4 * d + q') * 24 + i') = I1 186 ((4 * d + q') * 24 + i') := by
          intro x q' i' h1 h2 h3
          rw [am_u_nq (by omega), am_u_nq (by omega), f3 _ _ (by omega) (by omega) (by omega) (by omega) (by omega), f3 _ _ (by omega) (by omega) (by omega) (by omega) (by omega), am_u_nq (by omega), am_u_nq (by omega), u2 _ _ (by omega), u2 _ _ (by omega)]
          exact ⟨rfl, rfl⟩
        have hf3 : ∀ x : Int32, rSf d I (am_u I3 186 ((4 * d + q) * 24 + i) x) := fun x o j e1 e2 e3 e4 e5 => (am_u_nq (by omega)).trans (hI3 o j e1 e2 e3 e4 e5)
        by_cases cb : bqx w k B (wN w (972 + 5 * q + 1))
        · rw [if_pos ((bts_sh hv (by omega)).mpr ⟨t8, cb⟩)]
          refine ⟨bK, nx _ _ (hf3 1) (c3.of (am_u_nq (by omega)) (fun _ => am_u_nq (by omega))) (Or.inl ⟨am_u_same, e, by omega, be, by rw [am_u_nq (by omega)]; exact h185, fun e' => ?_⟩) (hoth 1)⟩
          rw [QQx_bqx]
          constructor
          · rintro ⟨B', z1, -⟩
            rw [hu] at z1; cases z1; rfl
          · rintro rfl; exact ⟨B, hu, cb⟩
        · rw [if_neg (fun z => cb ((bts_sh hv (by omega)).mp z).2)]
          refine ⟨bK, nx _ _ (hf3 0) (c3.of (am_u_nq (by omega)) (fun _ => am_u_nq (by omega))) (Or.inr ⟨am_u_same, fun e' z => ?_⟩) (hoth 0)⟩
          obtain ⟨B', z1, z2⟩ := QQx_bqx.mp z
          rw [hu] at z1; cases z1; exact cb z2
  have LQ : ∀ (m q : Nat) (I1 : am_I) (l3 l4 : Option Value), wN w 2 - q = m → q ≤ wN w 2 → rSf d I I1 → rCa I1 w → (∀ q' i', q' < q → i' < 24 → rQe d I1 T.1 (QQx w k T) q' i') → am_go none (D' + 11) 263 (2, [some (.ref 163), some (.int (ni d)), some (.int (ni q)), l3, l4], [], (am_SH, I1, J, Pf), 0, 0) P := by
    intro m
    induction m with
    | zero =>
      intro q I1 l3 l4 hm hq hf hC1 hQ1
      have : q = wN w 2 := by omega
      subst this
      refine v263_2 hp ?_
      rw [show I1 167 = w by rw [← hg]; funext y; exact hf _ _ (by omega) (by omega) (by omega) (by omega) (by omega), w2, if_pos ((ni_le (by omega) (by omega)).mpr (Nat.le_refl _)), show (0 : Int32) = ni 0 from rfl]
      exact LZ _ 0 I1 _ _ rfl (by omega) hf hC1 hQ1 (fun j hj => absurd hj (by omega))
    | succ m ih =>
      intro q I1 l3 l4 hm hq hf hC1 hQ1
      refine v263_2 hp ?_
      rw [show I1 167 = w by rw [← hg]; funext y; exact hf _ _ (by omega) (by omega) (by omega) (by omega) (by omega), w2, if_neg (fun z => absurd ((ni_le (by omega) (by omega)).mp z) (by omega)), show (0 : Int32) = ni 0 from rfl]
      exact LI _ q 0 I1 _ rfl (by omega) (by omega) hf hC1 hQ1 (fun i' h => absurd h (by omega)) (fun I' l3 l4 a1 a2 a3 => ih (q + 1) I' l3 l4 (by omega) (by omega) a1 a2 a3)
  refine am_mth_of rfl rfl (v263_0 hp ?_)
  rw [show (0 : Int32) = ni 0 from rfl]
  exact LQ _ 0 I _ _ rfl (Nat.zero_le _) rSf.rfl' hCa (fun q' i' h => absurd h (by omega))
theorem rSLV_all (hp : am_PF Pf) (hG : WG w) (hs : sndW w) : ∀ k d, d + k = 3 → rSLV J Pf w k d
  | 0, d, h => by
    have : d = 3 := by omega
    subst this
    exact rSLV_s hp hG hs rfl (rSRT_0 hp)
  | k + 1, d, h => rSLV_s hp hG hs h (rSRT_s hp hG hs (k := k) (by omega) (by omega) (rSLV_all hp hG hs k (d + 1) (by omega)))
theorem rSRT_all (hp : am_PF Pf) (hG : WG w) (hs : sndW w) {k d : Nat} (h : d + k = 4) (hd1 : 1 ≤ d) : rSRT J Pf w k d := by
  cases k with
  | zero =>
    have : d = 4 := by omega
    subst this
    exact rSRT_0 hp
  | succ k => exact rSRT_s hp hG hs (by omega) hd1 (rSLV_all hp hG hs k d (by omega))
end SLW
