/-! Ways: both count them -/
/-- a known text: the class's table tells its pieces -/
theorem smI_congr {f g : Nat → Int32} {i : Nat} : ∀ m, (∀ k, i ≤ k → k < i + m → f k = g k) → smI f i m = smI g i m
  | 0, _ => rfl
  | m + 1, h => by rw [smI_s, smI_s, smI_congr m (fun k h1 h2 => h k h1 (by omega)), h (i + m) (by omega) (by omega)]
section WYB
variable {d d0 : Nat} {P : am_O → Prop} {J : am_J} {Pf : am_R} {T : TX} {w : Nat → Int32} {r : Nat} {S : Nat → Nat → Nat → Prop}
theorem sc_ways (hp : am_PF Pf) (hr : r = 16 ∨ r = 55) (hF : cFn Pf r) (hG : WG w) {I : am_I} (hR : cRs r I J w) {k : Nat} (hTb : cTb 135 I w k T) (hTo : txOK T) {s i j : Nat} (h8 : s < 8) (hij : i ≤ j) (hj : j ≤ T.1)
    (kk : ∀ I', (∀ o y, o ≠ 152 → o ≠ 153 → I' o y = I o y) → P (.inl (some (.int (cif (0 < HHx w k T s i j) (wyM w T (pos (HHx w k T)) (QQx w k T) s i j) 0))), (am_SH, I', J, Pf), 0, 0)) : am_mth (d + 4) 124 [.ref 145, .int (ni s), .int (ni i), .int (ni j)] (am_SH, I, J, Pf) P := by
  obtain ⟨hT, hRu, hRow⟩ := hTb
  have h24 := hT.2.1
  have hrs := rul_sh hr
  have hrr : r ≤ 55 := by omega
  obtain ⟨-, ⟨w1, w1'⟩, ⟨w2, w2'⟩, -⟩ := id hG.1
  have stay : ∀ I1, (∀ o y, o ≠ 152 → o ≠ 153 → I1 o y = I o y) → cRs r I1 J w ∧ cTx 135 I1 T ∧ (∀ a, a ≤ T.1 → I1 137 a = ni (rnT w T a)) ∧ (∀ b, b ≤ T.1 → cRw 138 I1 T.1 (pos (HHx w k T)) b) := fun I1 hf =>
    ⟨hR.low hr hG (fun o y h => hf o y (by omega) (by omega)) (fun _ _ => rfl), ⟨by rw [hf _ _ (by omega) (by omega)]; exact hT.1, h24, fun x hx => by rw [hf _ _ (by omega) (by omega)]; exact hT.2.2 x hx⟩, fun a ha => by rw [hf _ _ (by omega) (by omega)]; exact hRu a ha, fun b hb => (hRow b hb).1.of (fun t _ => hf _ _ (by omega) (by omega))⟩
  refine am_mth_of rfl rfl (v124_0 hp ?_)
  rw [show (25 : Int32) = ni 25 from rfl, ni_mul, ni_add, show (ni (s * 25 + i)).toNatClampNeg = 25 * s + i by rw [ni_nat (by omega)]; omega]
  refine ⟨ni_in (by omega) (by omega), ?_⟩
  have hrow := (hRow i (by omega)).1 s h8
  by_cases c : 0 < HHx w k T s i j
  · rw [if_neg (fun z => (bts_us hrow (by omega)).mp z ⟨hij, hj, c⟩)]
    refine ⟨r, hF.1, hrs, ?_⟩
    -- the quotes
    have LQ : ∀ (m q : Nat) (I1 : am_I), wN w 2 - q = m → q ≤ wN w 2 → (∀ o y, o ≠ 152 → o ≠ 153 → I1 o y = I o y) → am_go none (d + 3) 124 (74, [some (.ref 145), some (.int (ni s)), some (.int (ni i)), some (.int (ni j)), some (.ref r), some (.int (wyQ w T (pos (HHx w k T)) (QQx w k T) s i j q)), some (.int (ni q))], [], (am_SH, I1, J, Pf), 0, 0) P := by
      intro m
      induction m with
      | zero =>
        intro q I1 hm hq hf
        have : q = wN w 2 := by omega
        subst this
        obtain ⟨s1, -⟩ := stay I1 hf
        refine v124_74 hp hrs ?_
        rw [s1.1.1.2.2.1, w2, if_pos ((ni_le (by omega) (by omega)).mpr (Nat.le_refl _))]
        have := kk I1 hf
        rw [cif_t c] at this
        unfold wyM at this
        split
        · rename_i c2; rw [if_pos c2] at this; exact this
        · rename_i c2; rw [if_neg c2] at this; exact this
      | succ m ih =>
        intro q I1 hm hq hf
        obtain ⟨s1, -⟩ := stay I1 hf
        obtain ⟨g1, g2, -⟩ := hG.qu (q := q) (by omega)
        have hQw := s1.1.2.2.2.1 q (by omega)
        have eW : wyQ w T (pos (HHx w k T)) (QQx w k T) s i j (q + 1) = cif (wN w (972 + 5 * q) = s ∧ QQx w k T q i j) (wyQ w T (pos (HHx w k T)) (QQx w k T) s i j q + 1) (wyQ w T (pos (HHx w k T)) (QQx w k T) s i j q) := rfl
        refine v124_74 hp hrs ?_
        rw [s1.1.1.2.2.1, w2, if_neg (fun z => absurd ((ni_le (by omega) (by omega)).mp z) (by omega)), show (ni q).toNatClampNeg = q from ni_nat (by omega), hQw.1, g2, ni_p1 q]
        refine ⟨ni_in (by omega) (by omega), ?_⟩
        by_cases c1 : wN w (972 + 5 * q) = s
        · rw [if_pos ((ni_inj (by omega) (by omega)).mpr c1), show (25 : Int32) = ni 25 from rfl, ni_mul, ni_add, show (ni (q * 25 + i)).toNatClampNeg = 25 * q + i by rw [ni_nat (by omega)]; omega, hf 139 _ (by omega) (by omega)]
          refine ⟨ni_in (by omega) (by omega), ?_⟩
          rcases (hRow i (by omega)).2 q (by omega) with ⟨e, e1, e2, e3, e4⟩ | ⟨e3, e4⟩
          · rw [show I 139 (25 * q + i) = ni e from e3]
            by_cases ce : e = j
            · rw [if_pos ((ni_inj (by omega) (by omega)).mpr ce)]
              have := ih (q + 1) I1 (by omega) (by omega) hf
              rw [eW, cif_t ⟨c1, (e4 j).mpr ce.symm⟩] at this
              exact this
            · rw [if_neg (fun z => ce ((ni_inj (by omega) (by omega)).mp z))]
              have := ih (q + 1) I1 (by omega) (by omega) hf
              rw [eW, cif_f (fun z => ce ((e4 j).mp z.2).symm)] at this
              exact this
          · rw [show I 139 (25 * q + i) = -1 from e3, if_neg (fun z => ni_neg1 (a := j) (by omega) z.symm)]
            have := ih (q + 1) I1 (by omega) (by omega) hf
            rw [eW, cif_f (fun z => e4 j z.2)] at this
            exact this
        · rw [if_neg (fun z => c1 ((ni_inj (by omega) (by omega)).mp z))]
          have := ih (q + 1) I1 (by omega) (by omega) hf
          rw [eW, cif_f (fun z => c1 z.1)] at this
          exact this
    have LP : ∀ (m p : Nat) (I1 : am_I), wN w 1 - p = m → p ≤ wN w 1 → (∀ o y, o ≠ 152 → o ≠ 153 → I1 o y = I o y) → am_go none (d + 3) 124 (30, [some (.ref 145), some (.int (ni s)), some (.int (ni i)), some (.int (ni j)), some (.ref r), some (.int (wyP w T (pos (HHx w k T)) s i j p)), some (.int (ni p))], [], (am_SH, I1, J, Pf), 0, 0) P := by
      intro m
      induction m with
      | zero =>
        intro p I1 hm hpp hf
        have : p = wN w 1 := by omega
        subst this
        obtain ⟨s1, -⟩ := stay I1 hf
        refine v124_30 hp hrs ?_
        rw [s1.1.1.2.1, w1, if_pos ((ni_le (by omega) (by omega)).mpr (Nat.le_refl _)), show (0 : Int32) = ni 0 from rfl]
        exact LQ _ 0 I1 rfl (Nat.zero_le _) hf
      | succ m ih =>
        intro p I1 hm hpp hf
        obtain ⟨s1, s2, s3, s4⟩ := stay I1 hf
        obtain ⟨g1, g2, -⟩ := hG.pr (p := p) (by omega)
        have hPw := s1.1.2.2.1 p (by omega)
        have eW : wyP w T (pos (HHx w k T)) s i j (p + 1) = if wN w (32 + 3 * p) = s then wyP w T (pos (HHx w k T)) s i j p + rwM w T (pos (HHx w k T)) p i j (wN w (32 + 3 * p + 2)) j else wyP w T (pos (HHx w k T)) s i j p := rfl
        refine v124_30 hp hrs ?_
        rw [s1.1.1.2.1, w1, if_neg (fun z => absurd ((ni_le (by omega) (by omega)).mp z) (by omega)), show (ni p).toNatClampNeg = p from ni_nat (by omega), hPw.1, g2, ni_p1]
        refine ⟨ni_in (by omega) (by omega), ?_⟩
        by_cases c1 : wN w (32 + 3 * p) = s
        · rw [if_pos ((ni_inj (by omega) (by omega)).mpr c1)]
          refine sc_rows (d := d + 1) hp hr hF hG s1 s2 hTo s3 s4 (by omega) hij hj (fun I2 f2 => am_back (v124_62 hp hrs ?_))
          rw [ni_p1]
          have := ih (p + 1) I2 (by omega) (by omega) (fun o y e1 e2 => (f2 o y e1 e2).trans (hf o y e1 e2))
          rw [eW, if_pos c1] at this
          exact this
        · rw [if_neg (fun z => c1 ((ni_inj (by omega) (by omega)).mp z))]
          have := ih (p + 1) I1 (by omega) (by omega) hf
          rw [eW, if_neg c1] at this
          exact this
    rw [show (0 : Int32) = ni 0 from rfl]
    exact LP _ 0 I rfl (Nat.zero_le _) (fun _ _ _ _ => rfl)
  · rw [if_pos ((bts_us hrow (by omega)).mpr (fun z => c z.2.2))]
    have := kk I (fun _ _ _ _ => rfl)
    rw [cif_f c] at this
    exact this
theorem sr_ways (hp : am_PF Pf) (hG : WG w) {I : am_I} (hg : I 167 = w) {k : Nat} (hT : rTd 0 I T) (h180 : I 180 0 = ni T.1) (hTo : txOK T) (hSd : rSd 0 I w k T) {s i j : Nat} (h8 : s < 8) (hij : i ≤ j) (hj : j ≤ T.1)
    (kk : ∀ I', (∀ o y, o ≠ 192 → o ≠ 193 → I' o y = I o y) → P (.inl (some (.int (cif (0 < HHx w k T s i j) (wyM w T (pos (HHx w k T)) (QQx w k T) s i j) 0))), (am_SH, I', J, Pf), 0, 0)) : am_mth (d0 + 6) 293 [.ref 163, .int (ni s), .int (ni i), .int (ni j)] (am_SH, I, J, Pf) P := by
  have h24 := hT.2.1
  obtain ⟨⟨H, hH, hHb, hHe⟩, hQ⟩ := hSd
  obtain ⟨-, ⟨w1, w1'⟩, ⟨w2, w2'⟩, -⟩ := id hG.1
  have hcell : 625 * s + 25 * i + j < 5000 := by omega
  have hB := hHb _ hcell
  have eH : ∀ t b e, t < 8 → b ≤ e → e ≤ T.1 → (0 < hC H t b e ↔ pos (HHx w k T) t b e) := fun t b e t8 h1 h2 => by
    rw [hHe t b e t8 (by omega) (by omega), if_pos ⟨h1, h2⟩]; exact Iff.rfl
  have eS : hC H s i j = H (625 * s + 25 * i + j) := rfl
  have e0 : (0 : Int32) * 8 = 0 := rfl
  have e32 : ∀ I1 : am_I, (∀ o y, o ≠ 192 → o ≠ 193 → I1 o y = I o y) → I1 167 = w := fun I1 hf => by rw [← hg]; funext y; exact hf _ _ (by omega) (by omega)
  refine am_mth_of rfl rfl (v293_0 hp ?_)
  rw [e0, Int32.zero_add, show (625 : Int32) = ni 625 from rfl, show (25 : Int32) = ni 25 from rfl, ni_mul, ni_mul, ni_add, ni_add, show (ni (s * 625 + i * 25 + j)).toNatClampNeg = 5000 * 0 + (625 * s + 25 * i + j) by rw [ni_nat (by omega)]; omega, hH _ hcell]
  refine ⟨ni_in (by omega) (by omega), ?_⟩
  by_cases c : 0 < HHx w k T s i j
  · have c' := (eH s i j h8 hij hj).mpr c
    rw [eS] at c'
    rw [if_neg (fun z => absurd ((lle 0 (by omega) (by omega)).mp z) (by omega))]
    have FIN : ∀ (I1 : am_I), (∀ o y, o ≠ 192 → o ≠ 193 → I1 o y = I o y) → ((if wyQ w T (pos (HHx w k T)) (QQx w k T) s i j (wN w 2) ≤ 9999 then P (.inl (some (.int (wyQ w T (pos (HHx w k T)) (QQx w k T) s i j (wN w 2)))), (am_SH, I1, J, Pf), 0, 0) else P (.inl (some (.int 9999)), (am_SH, I1, J, Pf), 0, 0))) := by
      intro I1 hf
      have := kk I1 hf
      rw [cif_t c] at this
      unfold wyM at this
      split
      · rename_i c2; rw [if_neg (fun z => i_nlt.mpr c2 z)] at this; exact this
      · rename_i c2; rw [if_pos (i_nle.mp c2)] at this; exact this
    have LQ : ∀ (m q : Nat) (I1 : am_I), wN w 2 - q = m → q ≤ wN w 2 → (∀ o y, o ≠ 192 → o ≠ 193 → I1 o y = I o y) → am_go none (d0 + 5) 293 (72, [some (.ref 163), some (.int (ni s)), some (.int (ni i)), some (.int (ni j)), some (.int (wyQ w T (pos (HHx w k T)) (QQx w k T) s i j q)), some (.int (ni q))], [], (am_SH, I1, J, Pf), 0, 0) P := by
      intro m
      induction m with
      | zero =>
        intro q I1 hm hq hf
        have : q = wN w 2 := by omega
        subst this
        refine v293_72 hp ?_
        rw [e32 I1 hf, w2, if_pos ((ni_le (by omega) (by omega)).mpr (Nat.le_refl _))]
        exact FIN I1 hf
      | succ m ih =>
        intro q I1 hm hq hf
        obtain ⟨g1, g2, -⟩ := hG.qu (q := q) (by omega)
        have eW : wyQ w T (pos (HHx w k T)) (QQx w k T) s i j (q + 1) = cif (wN w (972 + 5 * q) = s ∧ QQx w k T q i j) (wyQ w T (pos (HHx w k T)) (QQx w k T) s i j q + 1) (wyQ w T (pos (HHx w k T)) (QQx w k T) s i j q) := rfl
        refine v293_72 hp ?_
        rw [e32 I1 hf, w2, if_neg (fun z => absurd ((ni_le (by omega) (by omega)).mp z) (by omega))]
        by_cases ci : 24 ≤ i
        · rw [if_pos ((gle 24 (by omega) (by omega)).mpr ci)]
          -- no quote begins there
          have : ∀ m q, q + m = wN w 2 → wyQ w T (pos (HHx w k T)) (QQx w k T) s i j q = wyQ w T (pos (HHx w k T)) (QQx w k T) s i j (wN w 2) := by
            intro m
            induction m with
            | zero => intro q h; rw [show q = wN w 2 by omega]
            | succ m ihm =>
              intro q h
              rw [← ihm (q + 1) (by omega)]
              show _ = cif _ _ _
              rw [cif_f (fun z => by have := QQx_lt z.2; omega)]
          rw [this (wN w 2 - q) q (by omega)]
          exact FIN I1 hf
        · rw [if_neg (fun z => ci ((gle 24 (by omega) (by omega)).mp z)), show (5 : Int32) = ni 5 from rfl, ni_mul, show (972 : Int32) + ni (5 * q) = ni (972 + 5 * q) from ni_add 972 _, show (ni (972 + 5 * q)).toNatClampNeg = 972 + 5 * q from ni_nat (by omega), g2, ni_p1 q]
          refine ⟨ni_in (by omega) (by omega), ?_⟩
          by_cases c1 : wN w (972 + 5 * q) = s
          · rw [if_pos ((ni_inj (by omega) (by omega)).mpr c1), show (24 : Int32) = ni 24 from rfl, ni_mul, ni_add, show (ni (q * 24 + i)).toNatClampNeg = (4 * 0 + q) * 24 + i by rw [ni_nat (by omega)]; omega, hf 186 _ (by omega) (by omega), hf 185 _ (by omega) (by omega)]
            refine ⟨ni_in (by omega) (by omega), ?_⟩
            rcases hQ q i (by omega) (by omega) with ⟨z1, e, e1, e2, e3, e4⟩ | ⟨z1, e4⟩
            · rw [z1, if_neg (by decide), e3]
              refine ⟨ni_in (by omega) (by omega), ?_⟩
              by_cases ce : e = j
              · rw [if_pos ((ni_inj (by omega) (by omega)).mpr ce)]
                have := ih (q + 1) I1 (by omega) (by omega) hf
                rw [eW, cif_t ⟨c1, (e4 j).mpr ce.symm⟩] at this
                exact this
              · rw [if_neg (fun z => ce ((ni_inj (by omega) (by omega)).mp z)), Int32.add_zero]
                have := ih (q + 1) I1 (by omega) (by omega) hf
                rw [eW, cif_f (fun z => ce ((e4 j).mp z.2).symm)] at this
                exact this
            · rw [z1, if_pos rfl, Int32.add_zero]
              have := ih (q + 1) I1 (by omega) (by omega) hf
              rw [eW, cif_f (fun z => e4 j z.2)] at this
              exact this
          · rw [if_neg (fun z => c1 ((ni_inj (by omega) (by omega)).mp z)), Int32.add_zero]
            have := ih (q + 1) I1 (by omega) (by omega) hf
            rw [eW, cif_f (fun z => c1 z.1)] at this
            exact this
    have LP : ∀ (m p : Nat) (I1 : am_I), wN w 1 - p = m → p ≤ wN w 1 → (∀ o y, o ≠ 192 → o ≠ 193 → I1 o y = I o y) → am_go none (d0 + 5) 293 (19, [some (.ref 163), some (.int (ni s)), some (.int (ni i)), some (.int (ni j)), some (.int (wyP w T (pos (HHx w k T)) s i j p)), some (.int (ni p))], [], (am_SH, I1, J, Pf), 0, 0) P := by
      intro m
      induction m with
      | zero =>
        intro p I1 hm hpp hf
        have : p = wN w 1 := by omega
        subst this
        refine v293_19 hp ?_
        rw [e32 I1 hf, w1, if_pos ((ni_le (by omega) (by omega)).mpr (Nat.le_refl _)), show (0 : Int32) = ni 0 from rfl]
        exact LQ _ 0 I1 rfl (Nat.zero_le _) hf
      | succ m ih =>
        intro p I1 hm hpp hf
        obtain ⟨g1, g2, -⟩ := hG.pr (p := p) (by omega)
        have eW : wyP w T (pos (HHx w k T)) s i j (p + 1) = if wN w (32 + 3 * p) = s then wyP w T (pos (HHx w k T)) s i j p + rwM w T (pos (HHx w k T)) p i j (wN w (32 + 3 * p + 2)) j else wyP w T (pos (HHx w k T)) s i j p := rfl
        refine v293_19 hp ?_
        rw [e32 I1 hf, w1, if_neg (fun z => absurd ((ni_le (by omega) (by omega)).mp z) (by omega)), show (3 : Int32) = ni 3 from rfl, ni_mul, show (32 : Int32) + ni (3 * p) = ni (32 + 3 * p) from ni_add 32 _, show (ni (32 + 3 * p)).toNatClampNeg = 32 + 3 * p from ni_nat (by omega), g2, ni_p1]
        refine ⟨ni_in (by omega) (by omega), ?_⟩
        by_cases c1 : wN w (32 + 3 * p) = s
        · rw [if_pos ((ni_inj (by omega) (by omega)).mpr c1)]
          refine sr_rows (d0 := d0) hp hG (e32 I1 hf) ⟨by rw [hf _ _ (by omega) (by omega)]; exact hT.1, h24, fun x hx => by rw [hf _ _ (by omega) (by omega)]; exact hT.2.2 x hx⟩ (by rw [hf _ _ (by omega) (by omega)]; exact h180) hTo (fun c hc => by rw [hf _ _ (by omega) (by omega)]; exact hH c hc) hHb eH (by omega) hij hj (fun I2 f2 => am_back (v293_56 hp ?_))
          rw [ni_p1]
          have := ih (p + 1) I2 (by omega) (by omega) (fun o y e1 e2 => (f2 o y e1 e2).trans (hf o y e1 e2))
          rw [eW, if_pos c1] at this
          exact this
        · rw [if_neg (fun z => c1 ((ni_inj (by omega) (by omega)).mp z)), Int32.add_zero]
          have := ih (p + 1) I1 (by omega) (by omega) hf
          rw [eW, if_neg c1] at this
          exact this
    rw [show (0 : Int32) = ni 0 from rfl]
    exact LP _ 0 I rfl (Nat.zero_le _) (fun _ _ _ _ => rfl)
  · have c' : H (625 * s + 25 * i + j) = 0 := by
      by_cases z : H (625 * s + 25 * i + j) = 0
      · exact z
      · exact absurd ((eH s i j h8 hij hj).mp (by rw [eS]; omega)) c
    rw [if_pos ((lle 0 (by omega) (by omega)).mpr (by omega))]
    have := kk I (fun _ _ _ _ => rfl)
    rw [cif_f c] at this
    exact this
end WYB
