/-! The class's finder: one place -/
/-- the places at which signs bar a sort's ends -/
def barW (w : Nat → Int32) (T : TX) (m s j : Nat) : Prop := ∃ k, k < m ∧ wN w (992 + 2 * k) = s ∧ j < T.1 ∧ wCls w (wN w (992 + 2 * k + 1)) (sgI (T.2 j)) = true
theorem nBar_bar {w : Nat → Int32} {T : TX} {s j : Nat} : nBar w T s j ↔ ¬ barW w T (wN w 3) s j := by
  constructor
  · rintro h ⟨k, h1, h2, h3, h4⟩
    rw [h k h1 h2 h3] at h4; cases h4
  · intro h k h1 h2 h3
    cases e : wCls w (wN w (992 + 2 * k + 1)) (sgI (T.2 j)) with
    | false => rfl
    | true => exact absurd ⟨k, h1, h2, h3, e⟩ h
def cBr (I : am_I) (w : Nat → Int32) (T : TX) : Prop := ∀ s, s < 8 → bts (I 114 s) (barW w T (wN w 3) s)
/-- what the finder's work at one place changes -/
def cPf (x i : Nat) (I I' : am_I) : Prop := ∀ o k, ¬ (o = x + 3 ∧ ∃ t, t < 8 ∧ k = 25 * t + i) → o ≠ 115 → I' o k = I o k
theorem cPf.trans {x i : Nat} {I I' I'' : am_I} (h : cPf x i I I') (g : cPf x i I' I'') : cPf x i I I'' := fun o k e1 e2 => (g o k e1 e2).trans (h o k e1 e2)
theorem cPf.rfl' {x i : Nat} {I : am_I} : cPf x i I I := fun _ _ _ _ => rfl
/-- quotes that begin at a place -/
def cQe (x : Nat) (I : am_I) (w : Nat → Int32) (n : Nat) (Q : Nat → Nat → Nat → Prop) (i : Nat) : Prop := ∀ q, q < wN w 2 → (∃ e, i ≤ e ∧ e ≤ n ∧ I (x + 4) (25 * q + i) = ni e ∧ ∀ e', Q q i e' ↔ e' = e) ∨ (I (x + 4) (25 * q + i) = -1 ∧ ∀ e', ¬ Q q i e')
section FNP
variable {d x : Nat} {P : am_O → Prop} {J : am_J} {Pf : am_R} {T : TX} {w : Nat → Int32} {r : Nat}
theorem sc_barred (hp : am_PF Pf) (hx : am_SH[x]? = some (.inl 9)) (hx120 : 120 ≤ x) (hr : r = 16 ∨ r = 55) (hF : cFn Pf r) (hG : WG w) {I : am_I} (hw : cG r I J w) (hT : cTx x I T) (hTo : txOK T)
    (kk : ∀ I', cBr I' w T → (∀ o k, o ≠ 114 → I' o k = I o k) → P (.inl none, (am_SH, I', J, Pf), 0, 0)) : am_mth (d + 2) 9 [.ref 112, .ref x] (am_SH, I, J, Pf) P := by
  have h24 := hT.2.1
  have hrs := rul_sh hr
  obtain ⟨⟨w0, w0'⟩, -, -, ⟨w3, w3'⟩, -⟩ := id hG.1
  obtain ⟨⟨-, -, -, c3, -, -⟩, hC, -, -, hN, -⟩ := id hw
  have LJ : ∀ (m k j : Nat) (I1 : am_I), T.1 - j = m → j ≤ T.1 → k < wN w 3 → (∀ s, s < 8 → bts (I1 114 s) (fun y => barW w T k s y ∨ (wN w (992 + 2 * k) = s ∧ y < j ∧ wCls w (wN w (992 + 2 * k + 1)) (sgI (T.2 y)) = true))) → (∀ o k, o ≠ 114 → I1 o k = I o k) → (∀ I' l3, (∀ s, s < 8 → bts (I' 114 s) (barW w T (k + 1) s)) → (∀ o k, o ≠ 114 → I' o k = I o k) → am_go none (d + 1) 9 (10, [some (.ref 112), some (.ref x), some (.int (ni (k + 1))), l3], [], (am_SH, I', J, Pf), 0, 0) P) → am_go none (d + 1) 9 (23, [some (.ref 112), some (.ref x), some (.int (ni k)), some (.int (ni j))], [], (am_SH, I1, J, Pf), 0, 0) P := by
    intro m
    induction m with
    | zero =>
      intro k j I1 hm hj hk hB hf kk
      have : j = T.1 := by omega
      subst this
      refine v9_23 hp hx ?_
      rw [hf x 1 (by omega), hT.1, if_pos ((ni_le (by omega) (by omega)).mpr (Nat.le_refl _)), ni_p1]
      refine kk I1 _ (fun s hs => (hB s hs).of (fun y _ => ?_)) hf
      constructor
      · rintro (⟨k', z1, z2⟩ | ⟨z1, z2, z3⟩)
        · exact ⟨k', by omega, z2⟩
        · exact ⟨k, by omega, z1, z2, z3⟩
      · rintro ⟨k', z1, z2, z3, z4⟩
        by_cases e : k' = k
        · subst e; exact Or.inr ⟨z2, z3, z4⟩
        · exact Or.inl ⟨k', by omega, z2, z3, z4⟩
    | succ m ih =>
      intro k j I1 hm hj hk hB hf kk
      obtain ⟨g1, g2, g3, g4⟩ := hG.no hk
      obtain ⟨n1, n2⟩ := hN k hk
      have hsm := hTo.sg (i := j) (by omega)
      obtain ⟨o1, o2⟩ := cls_obj hp hr (c := wN w (992 + 2 * k + 1)) (by omega)
      have hCc := hC (wN w (992 + 2 * k + 1)) g3
      have hrr : r ≤ 55 := by omega
      refine v9_23 hp hx ?_
      rw [hf x 1 (by omega), hT.1, if_neg (fun z => absurd ((ni_le (by omega) (by omega)).mp z) (by omega)), show (ni k).toNatClampNeg = k from ni_nat (by omega), show (ni j).toNatClampNeg = j from ni_nat (by omega)]
      refine ⟨r, hF.1, hrs, ni_in (by omega) (by omega), ?_⟩
      rw [hf (r + 12) k (by omega), n2, g4, show (ni (wN w (992 + 2 * k + 1))).toNatClampNeg = wN w (992 + 2 * k + 1) from ni_nat (by omega), hf (x + 1) j (by omega), hT.2.2 j (by omega), hsm.1]
      refine ⟨ni_in (by omega) (by omega), _, o1, o2, ni_in (by omega) (by omega), sp_sg_has (d := d) hp o2 (by omega) (am_back (v9_57 hp hx ?_))⟩
      have eb : sgH (sgD J (cO r + wN w (992 + 2 * k + 1))) (sgI (T.2 j) + 32) = wCls w (wN w (992 + 2 * k + 1)) (sgI (T.2 j)) := by
        unfold sgH
        rw [decide_eq_true ⟨by omega, by omega⟩, Bool.true_and, Nat.add_sub_cancel, hCc.1 _ hsm.2]
      rw [eb, ni_p1]
      cases hcc : wCls w (wN w (992 + 2 * k + 1)) (sgI (T.2 j)) with
      | false =>
        rw [if_pos (show b2 false = 0 from rfl)]
        refine ih k (j + 1) I1 (by omega) (by omega) hk (fun s hs => (hB s hs).of (fun y _ => ?_)) hf kk
        constructor
        · rintro (z | ⟨z1, z2, z3⟩)
          · exact Or.inl z
          · exact Or.inr ⟨z1, by omega, z3⟩
        · rintro (z | ⟨z1, z2, z3⟩)
          · exact Or.inl z
          · by_cases e : y = j
            · subst e; rw [hcc] at z3; cases z3
            · exact Or.inr ⟨z1, by omega, z3⟩
      | true =>
        rw [if_neg (show ¬ b2 true = 0 by decide), show (ni k).toNatClampNeg = k from ni_nat (by omega)]
        refine ⟨r, hF.1, hrs, ni_in (by omega) (by omega), ?_⟩
        rw [hf (r + 11) k (by omega), n1, g2, show (ni (wN w (992 + 2 * k))).toNatClampNeg = wN w (992 + 2 * k) from ni_nat (by omega)]
        refine ⟨ni_in (by omega) (by omega), ni_in (by omega) (by omega), ih k (j + 1) _ (by omega) (by omega) hk (fun s hs => ?_) (fun o k e => (am_u_nq (by omega)).trans (hf o k e)) kk⟩
        by_cases es : s = wN w (992 + 2 * k)
        · subst es
          rw [am_u_same]
          refine (bts_or (hB _ hs) (bts_one (by omega))).of (fun y _ => ?_)
          constructor
          · rintro ((z | ⟨z1, z2, z3⟩) | z)
            · exact Or.inl z
            · exact Or.inr ⟨z1, by omega, z3⟩
            · subst z; exact Or.inr ⟨rfl, by omega, hcc⟩
          · rintro (z | ⟨z1, z2, z3⟩)
            · exact Or.inl (Or.inl z)
            · by_cases e : y = j
              · exact Or.inr e
              · exact Or.inl (Or.inr ⟨z1, by omega, z3⟩)
        · rw [am_u_nq (by omega)]
          refine (hB s hs).of (fun y _ => ?_)
          constructor
          · rintro (z | ⟨z1, z2, z3⟩)
            · exact Or.inl z
            · exact absurd z1.symm es
          · rintro (z | ⟨z1, z2, z3⟩)
            · exact Or.inl z
            · exact absurd z1.symm es
  have LK : ∀ (m k : Nat) (I1 : am_I) (l3 : Option Value), wN w 3 - k = m → k ≤ wN w 3 → (∀ s, s < 8 → bts (I1 114 s) (barW w T k s)) → (∀ o k, o ≠ 114 → I1 o k = I o k) → am_go none (d + 1) 9 (10, [some (.ref 112), some (.ref x), some (.int (ni k)), l3], [], (am_SH, I1, J, Pf), 0, 0) P := by
    intro m
    induction m with
    | zero =>
      intro k I1 l3 hm hk hB hf
      have : k = wN w 3 := by omega
      subst this
      refine v9_10 hp hx ⟨r, hF.1, hrs, ?_⟩
      rw [hf r 13 (by omega), c3, w3, if_pos ((ni_le (by omega) (by omega)).mpr (Nat.le_refl _))]
      exact kk I1 hB hf
    | succ m ih =>
      intro k I1 l3 hm hk hB hf
      refine v9_10 hp hx ⟨r, hF.1, hrs, ?_⟩
      rw [hf r 13 (by omega), c3, w3, if_neg (fun z => absurd ((ni_le (by omega) (by omega)).mp z) (by omega)), show (0 : Int32) = ni 0 from rfl]
      refine LJ _ k 0 I1 rfl (Nat.zero_le _) (by omega) (fun s hs => (hB s hs).of (fun y _ => ⟨fun z => Or.inl z, fun z => z.elim id (fun y => absurd y.2.1 (by omega))⟩)) hf (fun I' l3 z1 z2 => ih (k + 1) I' l3 (by omega) (by omega) z1 z2)
  refine am_mth_of rfl rfl (v9_0 hp hx ?_)
  have hf0 : ∀ o k, o ≠ 114 → am_fill I 114 0 8 0 o k = I o k := fun o k e => by
    unfold am_fill
    rw [if_neg (fun z => e z.1)]
  refine sp_fill (d := d) (L := 8) hp rfl (by omega) (am_back (v9_8 hp hx ?_))
  rw [show (0 : Int32) = ni 0 from rfl]
  exact LK _ 0 (am_fill I 114 0 8 0) _ rfl (Nat.zero_le _) (fun s hs => by
    have : am_fill I 114 0 8 0 114 s = 0 := if_pos ⟨rfl, Nat.zero_le _, hs⟩
    rw [this]
    exact bts_0 (fun j _ ⟨k, z, _⟩ => by omega)) hf0
/-- the ends of what a sort drops -/
theorem sc_dropped (hp : am_PF Pf) (hx : am_SH[x]? = some (.inl 9)) (hr : r = 16 ∨ r = 55) (hF : cFn Pf r) (hG : WG w) {I : am_I} (hd : btR I (r + 17) (drpW w)) {s i n : Nat} (h8 : s < 8) (hi : i < 25) {S : Nat → Nat → Nat → Prop} (hS : cRw (x + 3) I n S i)
    (kk : ∀ u, bts u (fun j => ∃ t, drpW w s t = true ∧ i ≤ j ∧ j ≤ n ∧ S t i j) → P (.inl (some (.int u)), (am_SH, I, J, Pf), 0, 0)) : am_mth (d + 1) 11 [.ref 112, .ref x, .int (ni s), .int (ni i)] (am_SH, I, J, Pf) P := by
  have LP : ∀ (m c : Nat) (u : Int32), 8 - c = m → c ≤ 8 → bts u (fun j => ∃ t, t < c ∧ drpW w s t = true ∧ i ≤ j ∧ j ≤ n ∧ S t i j) → am_go none d 11 (6, [some (.ref 112), some (.ref x), some (.int (ni s)), some (.int (ni i)), some (.int u), some (.int (ni c))], [], (am_SH, I, J, Pf), 0, 0) P := by
    intro m
    induction m with
    | zero =>
      intro c u hm hc hu
      have : c = 8 := by omega
      subst this
      refine v11_6 hp hx ?_
      rw [if_pos ((gle 8 (by omega) (by omega)).mpr (by omega))]
      refine kk u (hu.of (fun j _ => ⟨fun ⟨t, _, z⟩ => ⟨t, z⟩, fun ⟨t, z1, z2⟩ => ⟨t, (drp_lt hG z1).2, z1, z2⟩⟩))
    | succ m ih =>
      intro c u hm hc hu
      refine v11_6 hp hx ?_
      rw [if_neg (fun z => absurd ((gle 8 (by omega) (by omega)).mp z) (by omega)), show (ni s).toNatClampNeg = s from ni_nat (by omega), ni_p1]
      refine ⟨r + 15, hF.2, sor_sh hr, ni_in (by omega) (by omega), ?_⟩
      have hbt := hd s h8 c (by omega)
      rw [show r + 15 + 2 = r + 17 from rfl]
      cases hdc : drpW w s c with
      | false =>
        rw [if_pos ((bI_us (by omega)).mpr (by rw [hbt, hdc]; decide))]
        refine ih (c + 1) u (by omega) (by omega) (hu.of (fun j _ => ⟨fun ⟨t, z1, z2⟩ => ⟨t, by omega, z2⟩, fun ⟨t, z1, z2⟩ => ?_⟩))
        by_cases e : t = c
        · subst e; rw [hdc] at z2; exact absurd z2.1 (by decide)
        · exact ⟨t, by omega, z2⟩
      | true =>
        rw [if_neg (fun z => (bI_us (by omega)).mp z (by rw [hbt]; exact hdc)), show (25 : Int32) = ni 25 from rfl, ni_mul, ni_add, show (ni (c * 25 + i)).toNatClampNeg = 25 * c + i by rw [ni_nat (by omega)]; omega]
        refine ⟨ni_in (by omega) (by omega), ih (c + 1) _ (by omega) (by omega) ((bts_or hu (hS c (by omega))).of (fun j _ => ?_))⟩
        constructor
        · rintro (⟨t, z1, z2⟩ | z)
          · exact ⟨t, by omega, z2⟩
          · exact ⟨c, by omega, hdc, z⟩
        · rintro ⟨t, z1, z2⟩
          by_cases e : t = c
          · subst e; exact Or.inr z2.2
          · exact Or.inl ⟨t, by omega, z2⟩
  refine am_mth_of rfl rfl (v11_0 hp hx ?_)
  rw [show (0 : Int32) = ni 0 from rfl]
  exact LP _ 0 _ rfl (Nat.zero_le _) (bts_0 (fun j _ ⟨t, z, _⟩ => by omega))
end FNP
