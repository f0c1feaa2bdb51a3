/-! The class's finder: a whole text, bodies first -/
/-- a quote that begins at a place -/
def cQ1 (x : Nat) (I : am_I) (n : Nat) (Q : Nat → Nat → Nat → Prop) (q i : Nat) : Prop := (∃ e, i ≤ e ∧ e ≤ n ∧ I (x + 4) (25 * q + i) = ni e ∧ ∀ e', Q q i e' ↔ e' = e) ∨ (I (x + 4) (25 * q + i) = -1 ∧ ∀ e', ¬ Q q i e')
theorem cQ1.of {x n q i : Nat} {I I' : am_I} {Q : Nat → Nat → Nat → Prop} (h : cQ1 x I n Q q i) (e : I' (x + 4) (25 * q + i) = I (x + 4) (25 * q + i)) : cQ1 x I' n Q q i := by
  unfold cQ1
  rw [e]
  exact h
/-- a table's row of pieces and quotes from i on -/
def cTr (x : Nat) (I : am_I) (w : Nat → Int32) (k : Nat) (T : TX) (i : Nat) : Prop := cRw (x + 3) I T.1 (pos (HHx w k T)) i ∧ cQe x I w T.1 (QQx w k T) i
/-- a table tells all -/
def cTb (x : Nat) (I : am_I) (w : Nat → Int32) (k : Nat) (T : TX) : Prop := cTx x I T ∧ (∀ a, a ≤ T.1 → I (x + 2) a = ni (rnT w T a)) ∧ ∀ i, i ≤ T.1 → cTr x I w k T i
/-- what the finder changes on a level -/
def cFf (x l : Nat) (I I' : am_I) : Prop := ∀ o k, ¬ (x + 2 ≤ o ∧ o ≤ x + 4) → o ≠ 114 → o ≠ 115 → o ≠ 119 → ¬ (o = 112 ∧ k = 9) → ¬ (120 + 5 * l ≤ o ∧ o < 135) → I' o k = I o k
def cJf (J J' : am_J) : Prop := ∀ o, o ≠ 118 → J' o = J o
theorem cFf.trans {x l : Nat} {I I' I'' : am_I} (h : cFf x l I I') (g : cFf x l I' I'') : cFf x l I I'' := fun o k e1 e2 e3 e4 e5 e6 => (g o k e1 e2 e3 e4 e5 e6).trans (h o k e1 e2 e3 e4 e5 e6)
theorem cFf.rfl' {x l : Nat} {I : am_I} : cFf x l I I := fun _ _ _ _ _ _ _ _ => rfl
theorem cJf.trans {J J' J'' : am_J} (h : cJf J J') (g : cJf J' J'') : cJf J J'' := fun o e => (g o e).trans (h o e)
theorem cJf.rfl' {J : am_J} : cJf J J := fun _ _ => rfl
/-- the rules in use, their sorts -/
def cRs (r : Nat) (I : am_I) (J : am_J) (w : Nat → Int32) : Prop := cG r I J w ∧ cSo r I J w
theorem cRs.low {r : Nat} (hr : r = 16 ∨ r = 55) {I I' : am_I} {J J' : am_J} {w : Nat → Int32} (hG : WG w) (h : cRs r I J w) (f : ∀ o k, o < 112 → I' o k = I o k) (g : ∀ o, o < 112 → J' o = J o) : cRs r I' J' w := by
  have w0' := hG.1.1.2
  have hrr : r ≤ 55 := by omega
  obtain ⟨h1, ⟨a1, a2, a3⟩, ⟨a4, a5⟩, a6, a7, ⟨a8, a9⟩, a10⟩ := h
  refine ⟨h1.of (fun o k _ _ => f o k (by omega)) (fun c hc => g _ (by unfold cO; split <;> omega)), ⟨fun s h8 t ht => by rw [f _ _ (by omega)]; exact a1 s h8 t ht, fun s h8 t ht => by rw [f _ _ (by omega)]; exact a2 s h8 t ht, fun s h8 t ht => by rw [f _ _ (by omega)]; exact a3 s h8 t ht⟩, ⟨fun s h8 => by rw [f _ _ (by omega)]; exact a4 s h8, by rw [f _ _ (by omega)]; exact a5⟩, fun t ht => by rw [f _ _ (by omega)]; exact a6 t ht, fun s h8 => ⟨fun k hk => by rw [sgD_o (g _ (by omega))]; exact (a7 s h8).1 k hk, sgT_o (g _ (by omega)) (a7 s h8).2⟩, ⟨fun k hk => by rw [sgD_o (g _ (by omega))]; exact a8 k hk, sgT_o (g _ (by omega)) a9⟩, fun c hc t ht => by rw [f _ _ (by omega)]; exact a10 c hc t ht⟩
theorem bod_sh {l : Nat} (hl : l < 3) {Pf : am_R} (hp : am_PF Pf) : am_SH[120 + 5 * l]? = some (.inl 9) ∧ Pf 113 l = some (120 + 5 * l) := by
  have : l = 0 ∨ l = 1 ∨ l = 2 := by omega
  rcases this with rfl | rfl | rfl
  · exact ⟨rfl, hp _ _ _ rfl⟩
  · exact ⟨rfl, hp _ _ _ rfl⟩
  · exact ⟨rfl, hp _ _ _ rfl⟩
section FIL
variable {Pf : am_R} {w : Nat → Int32} {r : Nat}
/-- filling a table, said of a level -/
def cFIL (Pf : am_R) (w : Nat → Int32) (r k l : Nat) : Prop := ∀ (P : am_O → Prop) (D x f : Nat) (I : am_I) (J : am_J) (T : TX), 30 * k + 12 ≤ D → am_SH[x]? = some (.inl 9) → 120 ≤ x → (x + 5 ≤ 120 + 5 * l ∨ 135 ≤ x) → cRs r I J w → cTx x I T → txOK T → cKp I J w → f ≤ T.1 → (∀ i, f < i → i ≤ T.1 → cTr x I w k T i) → (∀ I' J', cTb x I' w k T → cKp I' J' w → cFf x l I I' → cJf J J' → P (.inl none, (am_SH, I', J', Pf), 0, 0)) → am_mth D 2 [.ref 112, .ref x, .int (ni l), .int (ni f)] (am_SH, I, J, Pf) P
/-- where a quote ends, if its body is good -/
def cQEN (Pf : am_R) (w : Nat → Int32) (r k l : Nat) : Prop := ∀ (P : am_O → Prop) (D x q i : Nat) (I : am_I) (J : am_J) (T : TX), 30 * k + 5 ≤ D → am_SH[x]? = some (.inl 9) → 120 ≤ x → (x + 5 ≤ 120 + 5 * l ∨ 135 ≤ x) → cRs r I J w → cTx x I T → txOK T → cKp I J w → q < wN w 2 → i ≤ T.1 → (∀ I' J' v, cKp I' J' w → cFf x l I I' → (∀ o k, (x + 2 ≤ o ∧ o ≤ x + 4) → I' o k = I o k) → cJf J J' → ((∃ e, i ≤ e ∧ e ≤ T.1 ∧ v = ni e ∧ ∀ e', QQx w k T q i e' ↔ e' = e) ∨ (v = -1 ∧ ∀ e', ¬ QQx w k T q i e')) → P (.inl (some (.int v)), (am_SH, I', J', Pf), 0, 0)) → am_mth D 4 [.ref 112, .ref x, .int (ni l), .int (ni q), .int (ni i)] (am_SH, I, J, Pf) P
/-- the sorts of a body -/
def cSBD (Pf : am_R) (w : Nat → Int32) (r k l : Nat) : Prop := ∀ (P : am_O → Prop) (D : Nat) (I : am_I) (J : am_J) (B : TX), 30 * k + 20 ≤ D → cRs r I J w → cTx (115 + 5 * l) I B → txOK B → cKp I J w → (∀ I' J' v, bts v (fun t => t < 8 ∧ 0 < HHx w k B t 0 B.1) → cKp I' J' w → (∀ o k, o ≠ 114 → o ≠ 115 → o ≠ 119 → ¬ (o = 112 ∧ k = 9) → ¬ (115 + 5 * l ≤ o ∧ o < 135) → I' o k = I o k) → cJf J J' → P (.inl (some (.int v)), (am_SH, I', J', Pf), 0, 0)) → am_mth D 5 [.ref 112, .ref (115 + 5 * l), .int (ni l)] (am_SH, I, J, Pf) P
theorem cSBD_of (hp : am_PF Pf) (hr : r = 16 ∨ r = 55) (hG : WG w) (hs : sndW w) {k l : Nat} (hl : 1 ≤ l ∧ l ≤ 3) (hk : k + l = 3) (hV : cFIL Pf w r k l) : cSBD Pf w r k l := by
  intro P D I J B hD hR hT hTo hK kk
  obtain ⟨D', rfl⟩ : ∃ D', D = D' + 4 := ⟨D - 4, by omega⟩
  obtain ⟨hx, -⟩ := bod_sh (l := l - 1) (by omega) hp
  rw [show 120 + 5 * (l - 1) = 115 + 5 * l by omega] at hx
  have h24 := hT.2.1
  -- nothing is kept of it
  have MISS : ∀ (l4 l6 l8 l10 : Option Value) (x9 : Int32), am_go none (D' + 3) 5 (140, [some (.ref 112), some (.ref (115 + 5 * l)), some (.int (ni l)), some (.long (li (pkT B 0))), l4, some (.long (li (pkT B 9))), l6, some (.long (li (256 * pkT B 18 + (4 * B.1 + l)))), l8, some (.int x9), l10], [], (am_SH, I, J, Pf), 0, 0) P := by
    intro l4 l6 l8 l10 x9
    refine v5_140 hp hx ?_
    rw [hT.1]
    refine hV _ (D' + 3) (115 + 5 * l) B.1 I J B (by omega) hx (by omega) (by omega) hR hT hTo hK (Nat.le_refl _) (fun i h1 h2 => absurd h2 (by omega)) (fun I1 J1 b1 b2 b3 b4 => am_back (v5_150 hp hx ?_))
    refine sc_whole (d := D' + 1) (H := HHx w k B) hp hx b1.1 (b1.2.2 0 (Nat.zero_le _)).1 (fun v hv => am_back (v5_154 hp rfl ?_))
    refine sc_keep (d := D' + 1) hp b2 hl hTo (v := v) (by rw [show 3 - l = k by omega]; exact hv) (fun I2 J2 c1 c2 c3 => am_back (v5_167 hp ?_))
    exact kk I2 J2 v hv c1 (fun o y e1 e2 e3 e4 e5 => (c2 o y e3 e4).trans (b3 o y (by omega) e1 e2 e3 e4 (by omega))) (b4.trans c3)
  -- the search
  have LP : ∀ (m c s : Nat) (l4 l6 l8 : Option Value), 256 - c = m → c ≤ 256 → s < 256 → am_k1 l8 = true → am_go none (D' + 3) 5 (49, [some (.ref 112), some (.ref (115 + 5 * l)), some (.int (ni l)), some (.long (li (pkT B 0))), l4, some (.long (li (pkT B 9))), l6, some (.long (li (256 * pkT B 18 + (4 * B.1 + l)))), l8, some (.int (ni s)), some (.int (ni c))], [], (am_SH, I, J, Pf), 0, 0) P := by
    intro m
    induction m with
    | zero =>
      intro c s l4 l6 l8 hm hc hs' h8
      have : c = 256 := by omega
      subst this
      refine v5_49 hp hx ?_
      rw [if_pos ((gle 256 (by omega) (by omega)).mpr (by omega))]
      exact MISS _ _ _ _ _
    | succ m ih =>
      intro c s l4 l6 l8 hm hc hs' h8
      have nx : am_go none (D' + 3) 5 (124, [some (.ref 112), some (.ref (115 + 5 * l)), some (.int (ni l)), some (.long (li (pkT B 0))), l4, some (.long (li (pkT B 9))), l6, some (.long (li (256 * pkT B 18 + (4 * B.1 + l)))), l8, some (.int (ni s)), some (.int (ni c))], [], (am_SH, I, J, Pf), 0, 0) P := by
        refine v5_124 hp hx h8 ?_
        obtain ⟨s', h1, h2⟩ := and255 (ni s + 1)
        rw [h2, ni_p1]
        exact ih (c + 1) s' _ _ _ (by omega) (by omega) h1 h8
      refine v5_49 hp hx ?_
      rw [if_neg (fun z => absurd ((gle 256 (by omega) (by omega)).mp z) (by omega)), show (ni s).toNatClampNeg = s from ni_nat (by omega), show (3 : Int32) = ni 3 from rfl, ni_mul, ni_p1 (s * 3), ni_p2 (s * 3), show (ni (s * 3)).toNatClampNeg = 3 * s by rw [ni_nat (by omega)]; omega, show (ni (s * 3 + 1)).toNatClampNeg = 3 * s + 1 by rw [ni_nat (by omega)]; omega, show (ni (s * 3 + 2)).toNatClampNeg = 3 * s + 2 by rw [ni_nat (by omega)]; omega]
      refine ⟨ni_in (by omega) (by omega), ?_⟩
      rcases hK s hs' with z | ⟨l', B', g1, g2, g3, g4, g5, g6, g7⟩
      · rw [if_pos z]; exact MISS _ _ _ _ _
      · split
        · exact MISS _ _ _ _ _
        · rw [g4, g5, g6]
          refine ⟨ni_in (by omega) (by omega), ?_⟩
          split
          · rename_i e1
            refine ⟨ni_in (by omega) (by omega), ?_⟩
            split
            · rename_i e2
              refine ⟨ni_in (by omega) (by omega), ?_⟩
              split
              · rename_i e3
                obtain ⟨y1, y2, y3⟩ := pk_inj g3 hTo (by omega) (by omega) (lg_cmp_0.mp e1) (lg_cmp_0.mp e2) (lg_cmp_0.mp e3)
                refine ⟨ni_in (by omega) (by omega), kk I J _ (g7.of (fun t _ => ?_)) hK (fun _ _ _ _ _ _ _ => rfl) cJf.rfl'⟩
                rw [show 3 - l' = k by omega]
                constructor
                · rintro ⟨z1, z2⟩
                  refine ⟨z1, ?_⟩
                  rw [← y2, ← HHx_ext hG hs y2 y3 t 0 B'.1 z1 (Nat.zero_le _) (Nat.le_refl _)]
                  exact z2
                · rintro ⟨z1, z2⟩
                  refine ⟨z1, ?_⟩
                  rw [HHx_ext hG hs y2 y3 t 0 B'.1 z1 (Nat.zero_le _) (Nat.le_refl _), y2]
                  exact z2
              · exact nx
            · exact nx
          · exact nx
  refine am_mth_of rfl rfl (v5_0 hp hx ?_)
  rw [show (0 : Int32) = ni 0 from rfl]
  refine sc_packed (d := D' + 2) hp hx hT hTo (by omega) (am_back (v5_5 hp hx ?_))
  rw [show (9 : Int32) = ni 9 from rfl]
  refine sc_packed (d := D' + 2) hp hx hT hTo (by omega) (am_back (v5_12 hp hx rfl ?_))
  rw [show (18 : Int32) = ni 18 from rfl]
  refine sc_packed (d := D' + 2) hp hx hT hTo (by omega) (am_back (v5_20 hp hx rfl ?_))
  have t18 := pkT_18 hTo
  rw [hT.1, li_or2 (by omega) h24 (by omega)]
  refine sc_slot (d := D' + 2) hp (fun s hs => am_back (v5_44 hp hx rfl ?_))
  rw [show (0 : Int32) = ni 0 from rfl]
  exact LP _ 0 s _ _ _ rfl (by omega) hs rfl
theorem cQEN_3 (hp : am_PF Pf) : cQEN Pf w r 0 3 := by
  intro P D x q i I J T hD hx hx1 hx2 hR hT hTo hK hq hi kk
  obtain ⟨D', rfl⟩ : ∃ D', D = D' + 1 := ⟨D - 1, by omega⟩
  refine am_mth_of rfl rfl (v4_0 hp hx ?_)
  rw [if_neg (by decide), if_neg (by decide)]
  exact kk I J (-1) hK cFf.rfl' (fun _ _ _ => rfl) cJf.rfl' (Or.inr ⟨rfl, fun e' z => z.elim⟩)
theorem cQEN_of (hp : am_PF Pf) (hr : r = 16 ∨ r = 55) (hF : cFn Pf r) (hG : WG w) {k l : Nat} (hk : k + l = 2) (hS : cSBD Pf w r k (l + 1)) : cQEN Pf w r (k + 1) l := by
  intro P D x q i I J T hD hx hx1 hx2 hR hT hTo hK hq hi kk
  obtain ⟨D', rfl⟩ : ∃ D', D = D' + 2 := ⟨D - 2, by omega⟩
  obtain ⟨hb, hbp⟩ := bod_sh (l := l) (by omega) hp
  have hrs := rul_sh hr
  have h24 := hT.2.1
  have w2' := hG.1.2.2.1.2
  have hrr : r ≤ 55 := by omega
  obtain ⟨-, -, t8, te⟩ := hG.qu hq
  have hQw := hR.1.2.2.2.1 q hq
  refine am_mth_of rfl rfl (v4_0 hp hx ?_)
  rw [if_neg (ni_nonneg (by omega)), if_pos ((llt 3 (by omega) (by omega)).mpr (by omega)), show (ni l).toNatClampNeg = l from ni_nat (by omega)]
  refine ⟨ni_in (by omega) (by omega), _, hbp, hb, r, hF.1, hrs, ?_⟩
  refine sc_body (d := D') hp hx hb (by omega) hr hT hTo (by omega) hQw (by omega) ?_
  cases hu : unq w T q i with
  | none =>
    intro I1 f1
    refine am_back (v4_36 hp hb ?_)
    rw [if_pos rfl]
    refine kk I1 J (-1) (hK.of (fun _ => f1 _ _ (by omega) (by omega)) rfl) (fun o y e1 e2 e3 e4 e5 e6 => f1 o y (by omega) (by omega)) (fun o y e1 => f1 o y (by omega) (by omega)) cJf.rfl' (Or.inr ⟨rfl, fun e' z => ?_⟩)
    obtain ⟨B, z1, -⟩ := z
    rw [hu] at z1; cases z1
  | some z =>
    obtain ⟨B, e⟩ := z
    intro I1 b1 bo be f1
    have hub := unq_ok hTo hu
    refine am_back (v4_36 hp hb ?_)
    rw [if_neg (ni_neg1 (by omega)), ni_p1]
    have hR1 : cRs r I1 J w := hR.low hr hG (fun o y h => f1 o y (by omega) (by omega)) (fun _ _ => rfl)
    have e5 : 115 + 5 * (l + 1) = 120 + 5 * l := by omega
    have := hS (am_af none (D' + 1) 4 52 [some (.ref 112), some (.ref x), some (.int (ni l)), some (.int (ni q)), some (.int (ni i)), some (.ref (120 + 5 * l)), some (.int (ni e))] [.int (ni (l + 1)), .ref (120 + 5 * l), .ref 112] [] (am_SH, I1, J, Pf) 0 0 true P) (D' + 1) I1 J B (by omega) hR1 (by rw [e5]; exact b1) bo (hK.of (fun _ => f1 _ _ (by omega) (by omega)) rfl) (fun I2 J2 v hv c1 c2 c3 => am_back (v4_55 hp ?_))
    · rw [e5] at this
      exact this
    · refine ⟨r, hF.1, hrs, ni_in (by omega) (by omega), ?_⟩
      have hfr : cFf x l I I2 := fun o y e1 e2 e3 e4 e5 e6 => (c2 o y e2 e3 e4 e5 (by omega)).trans (f1 o y (by omega) (by omega))
      have hx3 : ∀ o y, (x + 2 ≤ o ∧ o ≤ x + 4) → I2 o y = I o y := fun o y e1 => (c2 o y (by omega) (by omega) (by omega) (by omega) (by omega)).trans (f1 o y (by omega) (by omega))
      rw [show (ni q).toNatClampNeg = q from ni_nat (by omega), show I2 (r + 9) q = I (r + 9) q from hfr _ _ (by omega) (by omega) (by omega) (by omega) (by omega) (by omega), hQw.2.1, te]
      by_cases cb : 0 < HHx w k B (wN w (972 + 5 * q + 1)) 0 B.1
      · rw [if_neg (fun z => (bts_us hv (by omega)).mp z ⟨t8, cb⟩)]
        refine kk I2 J2 (ni e) c1 hfr hx3 c3 (Or.inl ⟨e, by omega, be, rfl, fun e' => ?_⟩)
        constructor
        · rintro ⟨B', z1, -⟩
          rw [hu] at z1; cases z1; rfl
        · rintro rfl; exact ⟨B, hu, cb⟩
      · rw [if_pos ((bts_us hv (by omega)).mpr (fun z => cb z.2))]
        refine kk I2 J2 (-1) c1 hfr hx3 c3 (Or.inr ⟨rfl, fun e' z => ?_⟩)
        obtain ⟨B', z1, z2⟩ := z
        rw [hu] at z1; cases z1; exact cb z2
theorem cRs.st {x l : Nat} (hr : r = 16 ∨ r = 55) (hG : WG w) {I I1 : am_I} {J J1 : am_J} {T : TX} (hx1 : 120 ≤ x) (hx2 : x + 5 ≤ 120 + 5 * l ∨ 135 ≤ x) (hR : cRs r I J w) (hT : cTx x I T) (h1 : cFf x l I I1) (h2 : cJf J J1) : cRs r I1 J1 w ∧ cTx x I1 T :=
  ⟨hR.low hr hG (fun o y e => h1 o y (by omega) (by omega) (by omega) (by omega) (by omega) (by omega)) (fun o e => h2 o (by omega)), by rw [h1 _ _ (by omega) (by omega) (by omega) (by omega) (by omega) (by omega)]; exact hT.1, hT.2.1, fun j hj => by rw [h1 _ _ (by omega) (by omega) (by omega) (by omega) (by omega) (by omega)]; exact hT.2.2 j hj⟩
theorem sc_quotes (hp : am_PF Pf) (hr : r = 16 ∨ r = 55) (hF : cFn Pf r) (hG : WG w) {k l : Nat} (hk : k + l = 3) (hQ : cQEN Pf w r k l) {P : am_O → Prop} {D x f : Nat} {I : am_I} {J : am_J} {T : TX} (hD : 30 * k + 6 ≤ D) (hx : am_SH[x]? = some (.inl 9)) (hx1 : 120 ≤ x) (hx2 : x + 5 ≤ 120 + 5 * l ∨ 135 ≤ x) (hR : cRs r I J w) (hT : cTx x I T) (hTo : txOK T) (hK : cKp I J w) (hfn : f ≤ T.1) (hrow : ∀ i, f < i → i ≤ T.1 → cQe x I w T.1 (QQx w k T) i)
    (kk : ∀ I' J', (∀ i, i ≤ T.1 → cQe x I' w T.1 (QQx w k T) i) → cKp I' J' w → cFf x l I I' → cJf J J' → (∀ y, I' (x + 2) y = I (x + 2) y) → (∀ y, I' (x + 3) y = I (x + 3) y) → P (.inl none, (am_SH, I', J', Pf), 0, 0)) : am_mth D 3 [.ref 112, .ref x, .int (ni l), .int (ni f)] (am_SH, I, J, Pf) P := by
  obtain ⟨D', rfl⟩ : ∃ D', D = D' + 1 := ⟨D - 1, by omega⟩
  have h24 := hT.2.1
  have hrs := rul_sh hr
  have hrr : r ≤ 55 := by omega
  obtain ⟨-, -, ⟨w2, w2'⟩, -⟩ := id hG.1
  have hx4 := am_h9_4 hx
  -- what holds while quotes are looked for
  have LI : ∀ (m : Nat) (q : Nat) (I1 : am_I) (J1 : am_J) (v : Int32), q < wN w 2 → m ≤ f + 1 → v = ni m - 1 → cFf x l I I1 → cJf J J1 → cKp I1 J1 w → (∀ y, I1 (x + 2) y = I (x + 2) y) → (∀ y, I1 (x + 3) y = I (x + 3) y) → (∀ q' i, q' < wN w 2 → i ≤ T.1 → (q' < q ∨ f < i ∨ (q' = q ∧ m ≤ i)) → cQ1 x I1 T.1 (QQx w k T) q' i) → (∀ I' J' l5, cFf x l I I' → cJf J J' → cKp I' J' w → (∀ y, I' (x + 2) y = I (x + 2) y) → (∀ y, I' (x + 3) y = I (x + 3) y) → (∀ q' i, q' < wN w 2 → i ≤ T.1 → (q' < q + 1 ∨ f < i) → cQ1 x I' T.1 (QQx w k T) q' i) → am_go none D' 3 (3, [some (.ref 112), some (.ref x), some (.int (ni l)), some (.int (ni f)), some (.int (ni (q + 1))), l5], [], (am_SH, I', J', Pf), 0, 0) P) → am_go none D' 3 (18, [some (.ref 112), some (.ref x), some (.int (ni l)), some (.int (ni f)), some (.int (ni q)), some (.int v)], [], (am_SH, I1, J1, Pf), 0, 0) P := by
    intro m
    induction m with
    | zero =>
      intro q I1 J1 v hq hm hv f1 j1 k1 r2 r3 q1 kk
      refine v3_18 hp hx ?_
      rw [if_pos (by rw [hv]; decide), ni_p1]
      exact kk I1 J1 _ f1 j1 k1 r2 r3 (fun q' i h1 h2 h3 => q1 q' i h1 h2 (by omega))
    | succ m ih =>
      intro q I1 J1 v hq hm hv f1 j1 k1 r2 r3 q1 kk
      have hv2 : v = ni m := by rw [hv]; exact ni_sub (b := 1) (by omega)
      subst hv2
      obtain ⟨s1, s2⟩ := cRs.st hr hG hx1 hx2 hR hT f1 j1
      refine v3_18 hp hx ?_
      rw [if_neg (ni_nonneg (by omega)), show (25 : Int32) = ni 25 from rfl, ni_mul, ni_add]
      refine hQ _ D' x q m I1 J1 T (by omega) hx hx1 hx2 s1 s2 hTo k1 hq (by omega) (fun I2 J2 v2 c1 c2 c3 c4 c5 => am_back (v3_45 hp hx hx4 ?_))
      rw [show (ni (q * 25 + m)).toNatClampNeg = 25 * q + m by rw [ni_nat (by omega)]; omega]
      refine ⟨ni_in (by omega) (by omega), ih q _ J2 _ hq (by omega) (Int32.sub_eq_add_neg _ _).symm (fun o y e1 e2 e3 e4 e5 e6 => (am_u_nq (by omega)).trans ((f1.trans c2) o y e1 e2 e3 e4 e5 e6)) (j1.trans c4) (c1.of (fun _ => am_u_nq (by omega)) rfl) (fun y => by rw [am_u_nq (by omega), c3 _ _ (by omega)]; exact r2 y) (fun y => by rw [am_u_nq (by omega), c3 _ _ (by omega)]; exact r3 y) (fun q' i h1 h2 h3 => ?_) kk⟩
      by_cases e : q' = q ∧ i = m
      · obtain ⟨rfl, rfl⟩ := e
        rcases c5 with ⟨e, z1, z2, z3, z4⟩ | ⟨z1, z2⟩
        · exact Or.inl ⟨e, z1, z2, by rw [am_u_same]; exact z3, z4⟩
        · exact Or.inr ⟨by rw [am_u_same]; exact z1, z2⟩
      · exact (q1 q' i h1 h2 (by omega)).of (by rw [am_u_nq (by omega)]; exact c3 _ _ (by omega))
  have LQ : ∀ (m q : Nat) (I1 : am_I) (J1 : am_J) (l5 : Option Value), wN w 2 - q = m → q ≤ wN w 2 → cFf x l I I1 → cJf J J1 → cKp I1 J1 w → (∀ y, I1 (x + 2) y = I (x + 2) y) → (∀ y, I1 (x + 3) y = I (x + 3) y) → (∀ q' i, q' < wN w 2 → i ≤ T.1 → (q' < q ∨ f < i) → cQ1 x I1 T.1 (QQx w k T) q' i) → am_go none D' 3 (3, [some (.ref 112), some (.ref x), some (.int (ni l)), some (.int (ni f)), some (.int (ni q)), l5], [], (am_SH, I1, J1, Pf), 0, 0) P := by
    intro m
    induction m with
    | zero =>
      intro q I1 J1 l5 hm hq f1 j1 k1 r2 r3 q1
      have : q = wN w 2 := by omega
      subst this
      obtain ⟨s1, s2⟩ := cRs.st hr hG hx1 hx2 hR hT f1 j1
      refine v3_3 hp hx ⟨r, hF.1, hrs, ?_⟩
      rw [s1.1.1.2.2.1, w2, if_pos ((ni_le (by omega) (by omega)).mpr (Nat.le_refl _))]
      exact kk I1 J1 (fun i hi q' hq' => q1 q' i hq' hi (Or.inl hq')) k1 f1 j1 r2 r3
    | succ m ih =>
      intro q I1 J1 l5 hm hq f1 j1 k1 r2 r3 q1
      obtain ⟨s1, s2⟩ := cRs.st hr hG hx1 hx2 hR hT f1 j1
      refine v3_3 hp hx ⟨r, hF.1, hrs, ?_⟩
      rw [s1.1.1.2.2.1, w2, if_neg (fun z => absurd ((ni_le (by omega) (by omega)).mp z) (by omega))]
      exact LI (f + 1) q I1 J1 _ (by omega) (Nat.le_refl _) (ni_sub (a := f + 1) (b := 1) (by omega)).symm f1 j1 k1 r2 r3 (fun q' i h1 h2 h3 => q1 q' i h1 h2 (by omega)) (fun I' J' l5 a1 a2 a3 a4 a5 a6 => ih (q + 1) I' J' l5 (by omega) (by omega) a1 a2 a3 a4 a5 a6)
  refine am_mth_of rfl rfl (v3_0 hp hx ?_)
  rw [show (0 : Int32) = ni 0 from rfl]
  exact LQ _ 0 I J _ rfl (Nat.zero_le _) cFf.rfl' cJf.rfl' hK (fun _ => rfl) (fun _ => rfl) (fun q' i h1 h2 h3 => hrow i (by omega) h2 q' h1)
theorem cFIL_of (hp : am_PF Pf) (hr : r = 16 ∨ r = 55) (hF : cFn Pf r) (hG : WG w) (hs : sndW w) {k l : Nat} (hk : k + l = 3) (hQ : cQEN Pf w r k l) : cFIL Pf w r k l := by
  intro P D x f I J T hD hx hx1 hx2 hR hT hTo hK hfn hrow kk
  obtain ⟨D', rfl⟩ : ∃ D', D = D' + 7 := ⟨D - 7, by omega⟩
  have h24 := hT.2.1
  have hrs := rul_sh hr
  have hrr : r ≤ 55 := by omega
  have hSol := HHx_sol hG hs k T
  -- all places, from the right
  have LPL : ∀ (m : Nat) (I1 : am_I) (J1 : am_J) (v : Int32) (l2 l3 : Option Value), am_k1 l3 = true → m ≤ f + 1 → v = ni m - 1 → cFf x l I I1 → cJf J J1 → cKp I1 J1 w → (∀ a, a ≤ T.1 → I1 (x + 2) a = ni (rnT w T a)) → cBr I1 w T → (∀ i, i ≤ T.1 → cQe x I1 w T.1 (QQx w k T) i) → (∀ b, m ≤ b → b ≤ T.1 → cRw (x + 3) I1 T.1 (pos (HHx w k T)) b) → am_go none (D' + 6) 2 (23, [some (.ref 112), some (.ref x), l2, l3, some (.int v)], [], (am_SH, I1, J1, Pf), 0, 0) P := by
    intro m
    induction m with
    | zero =>
      intro I1 J1 v l2 l3 h3 hm hv f1 j1 k1 r1 b1 q1 p1
      refine v2_23 hp hx ?_
      rw [if_pos (by rw [hv]; decide)]
      exact kk I1 J1 ⟨(cRs.st hr hG hx1 hx2 hR hT f1 j1).2, r1, fun i hi => ⟨p1 i (Nat.zero_le _) hi, q1 i hi⟩⟩ k1 f1 j1
    | succ m ih =>
      intro I1 J1 v l2 l3 h3 hm hv f1 j1 k1 r1 b1 q1 p1
      have hv2 : v = ni m := by rw [hv]; exact ni_sub (b := 1) (by omega)
      subst hv2
      obtain ⟨s1, s2⟩ := cRs.st hr hG hx1 hx2 hR hT f1 j1
      refine v2_23 hp hx ?_
      rw [if_neg (ni_nonneg (by omega))]
      refine sc_place (d := D' + 1) hp hx hx1 hr hF hG hs s1.1 s1.2.2.2.2.2.2 s1.2.2.1.1 s1.2.2.1.2 s1.2.1.2.1 s2 hTo r1 b1 hSol (by omega) (q1 m (by omega)) (fun b h1 h2 => p1 b (by omega) h2) (fun I2 c1 c2 => am_back (v2_35 hp hx h3 ?_))
      have e : ∀ o y, o ≠ x + 3 → o ≠ 115 → I2 o y = I1 o y := fun o y e1 e2 => c2 o y (fun z => e1 z.1) e2
      refine ih I2 J1 _ _ _ h3 (by omega) (Int32.sub_eq_add_neg _ _).symm (f1.trans (fun o y e1 e2 e3 e4 e5 e6 => e o y (by omega) e3)) j1 (k1.of (fun _ => e _ _ (by omega) (by omega)) rfl) (fun a ha => by rw [e _ _ (by omega) (by omega)]; exact r1 a ha) (fun s h8 => by rw [e _ _ (by omega) (by omega)]; exact b1 s h8) (fun i hi q hq => ?_) c1
      have := q1 i hi q hq
      rw [e _ _ (by omega) (by omega)]
      exact this
  refine am_mth_of rfl rfl (v2_0 hp hx ⟨r, hF.1, hrs, ?_⟩)
  refine sc_runs (d := D' + 4) hp hx (by omega) hr hG hR.1 hT hTo (fun I1 a1 a2 => am_back (v2_8 hp hx ?_))
  have f1 : cFf x l I I1 := fun o y e1 e2 e3 e4 e5 e6 => a2 o y (by omega)
  obtain ⟨s1, s2⟩ := cRs.st hr hG hx1 hx2 hR hT f1 cJf.rfl'
  refine sc_quotes (D := D' + 6) hp hr hF hG hk hQ (by omega) hx hx1 hx2 s1 s2 hTo (hK.of (fun _ => a2 _ _ (by omega)) rfl) hfn (fun i h1 h2 q hq => ?_) (fun I2 J2 b1 b2 b3 b4 b5 b6 => am_back (v2_15 hp hx ?_))
  · rw [a2 _ _ (by omega)]
    exact (hrow i h1 h2).2 q hq
  · have f2 := f1.trans b3
    obtain ⟨t1, t2⟩ := cRs.st hr hG hx1 hx2 hR hT f2 b4
    refine sc_barred (d := D' + 4) hp hx hx1 hr hF hG t1.1 t2 hTo (fun I3 c1 c2 => am_back (v2_20 hp hx ?_))
    refine LPL (f + 1) I3 J2 _ _ _ rfl (Nat.le_refl _) (ni_sub (a := f + 1) (b := 1) (by omega)).symm (f2.trans (fun o y e1 e2 e3 e4 e5 e6 => c2 o y e2)) b4 (b2.of (fun _ => c2 _ _ (by omega)) rfl) (fun a ha => by rw [c2 _ _ (by omega), b5]; exact a1 a ha) c1 (fun i hi q hq => by rw [c2 _ _ (by omega)]; exact b1 i hi q hq) (fun b h1 h2 t ht => ?_)
    rw [c2 _ _ (by omega), b6, a2 _ _ (by omega)]
    exact (hrow b (by omega) h2).1 t ht
theorem cFIL_all (hp : am_PF Pf) (hr : r = 16 ∨ r = 55) (hF : cFn Pf r) (hG : WG w) (hs : sndW w) : ∀ k l, k + l = 3 → cFIL Pf w r k l
  | 0, l, h => by
    have : l = 3 := by omega
    subst this
    exact cFIL_of hp hr hF hG hs rfl (cQEN_3 hp)
  | k + 1, l, h => cFIL_of hp hr hF hG hs h (cQEN_of hp hr hF hG (by omega) (cSBD_of hp hr hG hs (by omega) (by omega) (cFIL_all hp hr hF hG hs k (l + 1) (by omega))))
end FIL
