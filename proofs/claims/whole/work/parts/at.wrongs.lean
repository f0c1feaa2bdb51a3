/-! Why a text is not of a sort: the model; the class's answer -/
/-- the body of a quotation that ends, but whose body is not of its sort -/
noncomputable def bdO (w : Nat → Int32) (k : Nat) (T : TX) (q i : Nat) : Option TX := match unq w T q i with
  | none => none
  | some z => cif (bqx w k z.1 (wN w (972 + 5 * q + 1))) none (some z.1)
noncomputable def fqB (w : Nat → Int32) (k : Nat) (T : TX) (i : Nat) : Nat → Nat → Option (TX × Nat)
  | 0, _ => none
  | m + 1, q => match bdO w k T q i with
    | none => fqB w k T i m (q + 1)
    | some B => some (B, q)
noncomputable def fiB (w : Nat → Int32) (k : Nat) (T : TX) : Nat → Nat → Option (TX × Nat)
  | 0, _ => none
  | m + 1, i => match fqB w k T i (wN w 2) 0 with
    | none => fiB w k T m (i + 1)
    | some z => some z
/-- the first such quotation: its body, the quote -/
noncomputable def csW (w : Nat → Int32) (k : Nat) (T : TX) : Option (TX × Nat) := fiB w k T T.1 0
/-- the wrongs of a text that is not of the sort: place, sort, length -/
noncomputable def wrL (w : Nat → Int32) : Nat → TX → Nat → List (Nat × Nat × Nat)
  | 0, T, s => [(gtE w 0 T s T.1, s, T.1)]
  | k + 1, T, s => (gtE w (k + 1) T s T.1, s, T.1) :: (match csW w (k + 1) T with
    | none => []
    | some z => wrL w k z.1 (wN w (972 + 5 * z.2 + 1)))
theorem wrL_len {w : Nat → Int32} : ∀ k T s, 1 ≤ (wrL w k T s).length ∧ (wrL w k T s).length ≤ k + 1
  | 0, _, _ => ⟨Nat.le_refl _, Nat.le_refl _⟩
  | k + 1, T, s => by
    unfold wrL
    cases csW w (k + 1) T with
    | none => exact ⟨by simp, by simp⟩
    | some z =>
      have := wrL_len (w := w) k z.1 (wN w (972 + 5 * z.2 + 1))
      simp only [List.length_cons]
      omega
theorem bdO_n {w : Nat → Int32} {k : Nat} {T : TX} {q i : Nat} (h : unq w T q i = none) : bdO w k T q i = none := by
  unfold bdO; rw [h]
theorem bdO_g {w : Nat → Int32} {k : Nat} {T : TX} {q i e : Nat} (h : QQx w k T q i e) : bdO w k T q i = none := by
  obtain ⟨B, h1, h2⟩ := QQx_bqx.mp h
  unfold bdO; rw [h1]
  exact cif_t h2
theorem bdO_b {w : Nat → Int32} {k : Nat} {T : TX} {q i e : Nat} {B : TX} (h : unq w T q i = some (B, e)) (h2 : ¬ bqx w k B (wN w (972 + 5 * q + 1))) : bdO w k T q i = some B := by
  unfold bdO; rw [h]
  exact cif_f h2
theorem fqB_n {w : Nat → Int32} {k : Nat} {T : TX} {q i m : Nat} (h : bdO w k T q i = none) : fqB w k T i (m + 1) q = fqB w k T i m (q + 1) := by
  show (match bdO w k T q i with
    | none => fqB w k T i m (q + 1)
    | some B => some (B, q)) = _
  rw [h]
theorem fqB_s {w : Nat → Int32} {k : Nat} {T : TX} {q i m : Nat} {B : TX} (h : bdO w k T q i = some B) : fqB w k T i (m + 1) q = some (B, q) := by
  show (match bdO w k T q i with
    | none => fqB w k T i m (q + 1)
    | some B => some (B, q)) = _
  rw [h]
theorem fiB_n {w : Nat → Int32} {k : Nat} {T : TX} {i m : Nat} (h : fqB w k T i (wN w 2) 0 = none) : fiB w k T (m + 1) i = fiB w k T m (i + 1) := by
  show (match fqB w k T i (wN w 2) 0 with
    | none => fiB w k T m (i + 1)
    | some z => some z) = _
  rw [h]
theorem fiB_s {w : Nat → Int32} {k : Nat} {T : TX} {i m : Nat} {z : TX × Nat} (h : fqB w k T i (wN w 2) 0 = some z) : fiB w k T (m + 1) i = some z := by
  show (match fqB w k T i (wN w 2) 0 with
    | none => fiB w k T m (i + 1)
    | some z => some z) = _
  rw [h]
theorem fqB_q {w : Nat → Int32} {k : Nat} {T : TX} {i : Nat} {z : TX × Nat} : ∀ m q, fqB w k T i m q = some z → q ≤ z.2 ∧ z.2 < q + m ∧ ∃ e, unq w T z.2 i = some (z.1, e)
  | 0, _, h => by cases h
  | m + 1, q, h => by
    cases hb : bdO w k T q i with
    | none =>
      rw [fqB_n hb] at h
      have := fqB_q m (q + 1) h
      exact ⟨by omega, by omega, this.2.2⟩
    | some B =>
      rw [fqB_s hb] at h
      cases h
      refine ⟨Nat.le_refl _, by show q < q + (m + 1); omega, ?_⟩
      unfold bdO at hb
      cases hu : unq w T q i with
      | none => rw [hu] at hb; cases hb
      | some y =>
        rw [hu] at hb
        dsimp only at hb
        by_cases c : bqx w k y.1 (wN w (972 + 5 * q + 1))
        · rw [cif_t c] at hb; cases hb
        · rw [cif_f c] at hb
          cases hb
          exact ⟨y.2, rfl⟩
theorem csW_q {w : Nat → Int32} {k : Nat} {T : TX} {z : TX × Nat} (h : csW w k T = some z) : z.2 < wN w 2 ∧ ∃ i e, i < T.1 ∧ unq w T z.2 i = some (z.1, e) := by
  have key : ∀ m i, i + m = T.1 → fiB w k T m i = some z → z.2 < wN w 2 ∧ ∃ i e, i < T.1 ∧ unq w T z.2 i = some (z.1, e) := by
    intro m
    induction m with
    | zero => intro i _ h; cases h
    | succ m ih =>
      intro i hi h
      cases hb : fqB w k T i (wN w 2) 0 with
      | none => rw [fiB_n hb] at h; exact ih (i + 1) (by omega) h
      | some y =>
        rw [fiB_s hb] at h
        cases h
        obtain ⟨_, h2, e, h3⟩ := fqB_q _ _ hb
        exact ⟨by omega, i, e, by omega, h3⟩
  exact key T.1 0 (by omega) h
/-- wrongs, as they are laid into a row -/
def wrH (o : Nat) (I : am_I) (m0 : Nat) (L : List (Nat × Nat × Nat)) : Prop := ∀ (m : Nat) (z : Nat × Nat × Nat), L[m]? = some z → I o (3 * (m0 + m)) = ni z.1 ∧ I o (3 * (m0 + m) + 1) = ni z.2.1 ∧ I o (3 * (m0 + m) + 2) = ni z.2.2
theorem wrH.cons {o : Nat} {I : am_I} {m0 : Nat} {z : Nat × Nat × Nat} {L : List (Nat × Nat × Nat)} (h0 : I o (3 * m0) = ni z.1) (h1 : I o (3 * m0 + 1) = ni z.2.1) (h2 : I o (3 * m0 + 2) = ni z.2.2) (h : wrH o I (m0 + 1) L) : wrH o I m0 (z :: L) := by
  intro m y hm
  cases m with
  | zero => cases hm; exact ⟨h0, h1, h2⟩
  | succ m =>
    have := h m y hm
    rw [show m0 + 1 + m = m0 + (m + 1) by omega] at this
    exact this
theorem wrH.nil {o : Nat} {I : am_I} {m0 : Nat} : wrH o I m0 [] := fun m y hm => by simp at hm
section WRC
variable {P : am_O → Prop} {J : am_J} {Pf : am_R} {T : TX} {w : Nat → Int32} {r : Nat}
theorem sc_wq (hp : am_PF Pf) (hr : r = 16 ∨ r = 55) (hF : cFn Pf r) (hG : WG w) {x y k : Nat} (hx : am_SH[x]? = some (.inl 9)) (hy : am_SH[y]? = some (.inl 9)) (hx1 : 120 ≤ x) (hy1 : 120 ≤ y) (hxy : x + 5 ≤ y ∨ y + 5 ≤ x) {I : am_I} (hR : cRs r I J w) (hTb : cTb x I w k T) (hTo : txOK T) {d : Nat} (kk : oq (csW w k T) (∀ I', cTf y I I' → P (.inl (some (.int (-1))), (am_SH, I', J, Pf), 0, 0)) (fun B q => ∀ I', cTx y I' B → txOK B → q < wN w 2 → cTf y I I' → P (.inl (some (.int (ni q))), (am_SH, I', J, Pf), 0, 0))) : am_mth (d + 4) 19 [.ref 112, .ref x, .ref y] (am_SH, I, J, Pf) P := by
  obtain ⟨-, -, ⟨w2, w2'⟩, -⟩ := id hG.1
  have hrr : r ≤ 55 := by omega
  have h24 := hTb.1.2.1
  have hI9 : I r 9 = ni (wN w 2) := hR.1.1.2.2.1.trans w2
  have hrs := rul_sh hr
  have tf : ∀ {I1 I2 : am_I}, cTf y I I1 → cTf y I1 I2 → cTf y I I2 := fun f g o k e1 e2 => (g o k e1 e2).trans (f o k e1 e2)
  have LQ : ∀ (m q i : Nat) (I1 : am_I), wN w 2 - q = m → q ≤ wN w 2 → i < T.1 → cTf y I I1 → oq (fqB w k T i m q) (∀ I' l4, cTf y I I' → am_go none (d + 3) 19 (2, [some (.ref 112), some (.ref x), some (.ref y), some (.int (ni (i + 1))), l4], [], (am_SH, I', J, Pf), 0, 0) P) (fun B q => ∀ I', cTx y I' B → txOK B → q < wN w 2 → cTf y I I' → P (.inl (some (.int (ni q))), (am_SH, I', J, Pf), 0, 0)) → am_go none (d + 3) 19 (13, [some (.ref 112), some (.ref x), some (.ref y), some (.int (ni i)), some (.int (ni q))], [], (am_SH, I1, J, Pf), 0, 0) P := by
    intro m
    induction m with
    | zero =>
      intro q i I1 hm hq hi hf kk
      have e : q = wN w 2 := by omega
      subst e
      refine v19_13 hp hx hy ⟨r, hF.1, hrs, ?_⟩
      rw [hf r 9 (by omega) (by omega), hI9, if_pos ((ni_le (by omega) (by omega)).mpr (Nat.le_refl _)), ni_p1]
      exact kk I1 _ hf
    | succ m ih =>
      intro q i I1 hm hq hi hf kk
      have hq2 : q < wN w 2 := by omega
      have hT1 : cTx x I1 T := hTb.1.of hf hxy
      have nx : ∀ I2, cTf y I I2 → bdO w k T q i = none → am_go none (d + 3) 19 (13, [some (.ref 112), some (.ref x), some (.ref y), some (.int (ni i)), some (.int (ni q + 1))], [], (am_SH, I2, J, Pf), 0, 0) P := fun I2 f2 hb => by
        rw [fqB_n hb] at kk
        rw [ni_p1]
        exact ih (q + 1) i I2 (by omega) (by omega) hi f2 kk
      have hix : (ni (q * 25 + i)).toNatClampNeg = 25 * q + i := by rw [ni_nat (by omega)]; omega
      refine v19_13 hp hx hy ⟨r, hF.1, hrs, ?_⟩
      rw [hf r 9 (by omega) (by omega), hI9, if_neg (fun z => absurd ((ni_le (by omega) (by omega)).mp z) (by omega)), show (25 : Int32) = ni 25 from rfl, ni_mul, ni_add, hix, hf (x + 4) _ (by omega) (by omega)]
      refine ⟨ni_in (by omega) (by omega), ?_⟩
      rcases (hTb.2.2 i (by omega)).2 q hq2 with ⟨e, e1, e2, e3, e4⟩ | ⟨e3, e4⟩
      · rw [e3, if_neg (ni_neg1 (by omega))]
        exact nx I1 hf (bdO_g ((e4 e).mpr rfl))
      · rw [e3, if_pos rfl]
        have hGq : cGq r I1 w q := by
          obtain ⟨z1, z2, z3⟩ := hR.1.2.2.2.1 q hq2
          exact ⟨by rw [hf _ _ (by omega) (by omega)]; exact z1, by rw [hf _ _ (by omega) (by omega)]; exact z2, fun i hi => by rw [hf _ _ (by omega) (by omega)]; exact z3 i hi⟩
        refine sc_body (d := d + 2) (w := w) hp hx hy hxy hr hT1 hTo (show q < 4 by omega) hGq (show i < 100 by omega) ?_
        cases hu : unq w T q i with
        | none =>
          intro I2 f2
          refine am_back (v19_53 hp hx hy ?_)
          rw [if_pos rfl]
          exact nx I2 (tf hf f2) (bdO_n hu)
        | some z =>
          obtain ⟨B, e⟩ := z
          intro I2 hB hBo he f2
          have hb : bdO w k T q i = some B := bdO_b hu (fun z => e4 e (QQx_bqx.mpr ⟨B, hu, z⟩))
          rw [fqB_s hb] at kk
          refine am_back (v19_53 hp hx hy ?_)
          rw [if_neg (ni_neg1 (by omega))]
          exact kk I2 hB hBo hq2 (tf hf f2)
  have LI : ∀ (m i : Nat) (I1 : am_I) (l4 : Option Value), T.1 - i = m → i ≤ T.1 → cTf y I I1 → oq (fiB w k T m i) (∀ I', cTf y I I' → P (.inl (some (.int (-1))), (am_SH, I', J, Pf), 0, 0)) (fun B q => ∀ I', cTx y I' B → txOK B → q < wN w 2 → cTf y I I' → P (.inl (some (.int (ni q))), (am_SH, I', J, Pf), 0, 0)) → am_go none (d + 3) 19 (2, [some (.ref 112), some (.ref x), some (.ref y), some (.int (ni i)), l4], [], (am_SH, I1, J, Pf), 0, 0) P := by
    intro m
    induction m with
    | zero =>
      intro i I1 l4 hm hi hf kk
      refine v19_2 hp hx hy ?_
      rw [(hTb.1.of hf hxy).1, if_pos ((ni_le (by omega) (by omega)).mpr (by omega))]
      exact kk I1 hf
    | succ m ih =>
      intro i I1 l4 hm hi hf kk
      refine v19_2 hp hx hy ?_
      rw [(hTb.1.of hf hxy).1, if_neg (fun z => absurd ((ni_le (by omega) (by omega)).mp z) (by omega)), show (0 : Int32) = ni 0 from rfl]
      refine LQ _ 0 i I1 rfl (Nat.zero_le _) (by omega) hf ?_
      rw [Nat.sub_zero]
      cases hb : fqB w k T i (wN w 2) 0 with
      | none =>
        rw [fiB_n hb] at kk
        exact fun I2 l4 f2 => ih (i + 1) I2 l4 (by omega) (by omega) f2 kk
      | some z =>
        rw [fiB_s hb] at kk
        exact kk
  refine am_mth_of rfl rfl (v19_0 hp hx hy ?_)
  rw [show (0 : Int32) = ni 0 from rfl]
  exact LI _ 0 I _ rfl (Nat.zero_le _) (fun _ _ _ _ => rfl) kk
/-- what telling wrongs may change, from a level on -/
def cEf (l : Nat) (I I' : am_I) : Prop := ∀ o k, ¬ (o = 116 ∧ 3 * l ≤ k) → o ≠ 114 → o ≠ 115 → o ≠ 119 → ¬ (o = 112 ∧ k = 9) → ¬ (120 + 5 * l ≤ o ∧ o < 135) → I' o k = I o k
theorem sc_expl (hp : am_PF Pf) (hr : r = 16 ∨ r = 55) (hF : cFn Pf r) (hG : WG w) (hs : sndW w) {D : Nat} (hD : 100 ≤ D) : ∀ (k l : Nat), k + l = 3 → ∀ (x s : Nat) (T : TX) (I : am_I) (J : am_J) (l1 l2 l6 : Option Value), am_k1 l2 = true → x = (if l = 0 then 135 else 115 + 5 * l) → cRs r I J w → cTb x I w k T → txOK T → cKp I J w → s < 8 → (∀ I' J', wrH 116 I' l (wrL w k T s) → cKp I' J' w → cEf l I I' → cJf J J' → P (.inl (some (.int (ni (l + (wrL w k T s).length)))), (am_SH, I', J', Pf), 0, 0)) → am_go none D 18 (23, [some (.ref 112), l1, l2, some (.ref x), some (.int (ni s)), some (.int (ni l)), l6], [], (am_SH, I, J, Pf), 0, 0) P := by
  obtain ⟨D', rfl⟩ : ∃ D', D = D' + 6 := ⟨D - 6, by omega⟩
  obtain ⟨-, -, ⟨w2, w2'⟩, -⟩ := id hG.1
  have hrr : r ≤ 55 := by omega
  intro k
  induction k with
  | zero =>
    intro l hl x s T I J l1 l2 l6 hl2 hxl hR hTb hTo hK h8 kk
    obtain rfl : l = 3 := by omega
    have hx : am_SH[x]? = some (.inl 9) := by rw [hxl]; rfl
    have hx1 : 120 ≤ x := by rw [hxl]; decide
    have h24 := hTb.1.2.1
    refine v18_23 hp hx ?_
    rw [if_neg (by decide)]
    refine sc_greatend (d := D' + 4) hp hx hTb h8 (am_back (v18_43 hp hx ?_))
    rw [if_pos (by decide), show (ni 3 * 3).toNatClampNeg = 9 from by decide, show (ni 3 * 3 + 1).toNatClampNeg = 10 from by decide, show (ni 3 * 3 + 2).toNatClampNeg = 11 from by decide, am_u_nq (by omega), am_u_nq (by omega), hTb.1.1]
    refine ⟨by decide, by decide, by decide, ?_⟩
    refine kk _ J (wrH.cons ?_ ?_ ?_ wrH.nil) (hK.of (fun k => by rw [am_u_nq (by omega), am_u_nq (by omega), am_u_nq (by omega)]) rfl) (fun o k e1 e2 e3 e4 e5 e6 => by rw [am_u_nq (by omega), am_u_nq (by omega), am_u_nq (by omega)]) (fun _ _ => rfl)
    · rw [am_u_nq (by omega), am_u_nq (by omega)]; exact am_u_same
    · rw [am_u_nq (by omega)]; exact am_u_same
    · exact am_u_same
  | succ k ih =>
    intro l hl x s T I J l1 l2 l6 hl2 hxl hR hTb hTo hK h8 kk
    have hl3 : l < 3 := by omega
    obtain ⟨hy, hyP⟩ := bod_sh hl3 hp
    have hx : am_SH[x]? = some (.inl 9) := by
      have e : l = 0 ∨ l = 1 ∨ l = 2 := by omega
      rcases e with rfl | rfl | rfl <;> (rw [hxl]; rfl)
    have hx1 : 120 ≤ x ∧ (x + 5 ≤ 120 + 5 * l ∨ (120 + 5 * l) + 5 ≤ x) ∧ x ≤ 135 := by
      rw [hxl]; split <;> omega
    have h24 := hTb.1.2.1
    refine v18_23 hp hx ?_
    rw [if_neg (fun z => absurd ((gle 4 (by omega) (by omega)).mp z) (by omega))]
    refine sc_greatend (d := D' + 4) hp hx hTb h8 (am_back (v18_43 hp hx ?_))
    rw [show (3 : Int32) = ni 3 from rfl, show ni l * ni 3 = ni (3 * l) by rw [ni_mul, Nat.mul_comm], ni_p1, ni_p2, ni_p1, if_neg (fun z => absurd ((ni_le (by omega) (by omega)).mp z) (by omega)), ni_nat (show 3 * l < 2147483648 by omega), ni_nat (show 3 * l + 1 < 2147483648 by omega), ni_nat (show 3 * l + 2 < 2147483648 by omega), ni_nat (show l < 2147483648 by omega), show (am_u (am_u I 116 (3 * l) (ni (gtE w (k + 1) T s T.1))) 116 (3 * l + 1) (ni s)) x 1 = ni T.1 by rw [am_u_nq (by omega), am_u_nq (by omega)]; exact hTb.1.1]
    have hf1 : ∀ o c, o ≠ 116 → (am_u (am_u (am_u I 116 (3 * l) (ni (gtE w (k + 1) T s T.1))) 116 (3 * l + 1) (ni s)) 116 (3 * l + 2) (ni T.1)) o c = I o c := fun o c e => by rw [am_u_nq (by omega), am_u_nq (by omega), am_u_nq (by omega)]
    have hg0 : (am_u (am_u (am_u I 116 (3 * l) (ni (gtE w (k + 1) T s T.1))) 116 (3 * l + 1) (ni s)) 116 (3 * l + 2) (ni T.1)) 116 (3 * l) = ni (gtE w (k + 1) T s T.1) := by rw [am_u_nq (by omega), am_u_nq (by omega)]; exact am_u_same
    have hg1 : (am_u (am_u (am_u I 116 (3 * l) (ni (gtE w (k + 1) T s T.1))) 116 (3 * l + 1) (ni s)) 116 (3 * l + 2) (ni T.1)) 116 (3 * l + 1) = ni s := by rw [am_u_nq (by omega)]; exact am_u_same
    have hg2 : (am_u (am_u (am_u I 116 (3 * l) (ni (gtE w (k + 1) T s T.1))) 116 (3 * l + 1) (ni s)) 116 (3 * l + 2) (ni T.1)) 116 (3 * l + 2) = ni T.1 := am_u_same
    have hfl : ∀ o c, o = 116 → c < 3 * l → (am_u (am_u (am_u I 116 (3 * l) (ni (gtE w (k + 1) T s T.1))) 116 (3 * l + 1) (ni s)) 116 (3 * l + 2) (ni T.1)) o c = I o c := fun o c e e2 => by rw [am_u_nq (by omega), am_u_nq (by omega), am_u_nq (by omega)]
    generalize am_u (am_u (am_u I 116 (3 * l) (ni (gtE w (k + 1) T s T.1))) 116 (3 * l + 1) (ni s)) 116 (3 * l + 2) (ni T.1) = I1 at hf1 hg0 hg1 hg2 hfl ⊢
    have hR1 : cRs r I1 J w := hR.low hr hG (fun o k ho => hf1 _ _ (by omega)) (fun _ _ => rfl)
    have hTb1 : cTb x I1 w (k + 1) T := hTb.of (fun o y e1 e2 => hf1 _ _ (by omega))
    have hK1 : cKp I1 J w := hK.of (fun c => hf1 _ _ (by omega)) rfl
    have eL : wrL w (k + 1) T s = (gtE w (k + 1) T s T.1, s, T.1) :: (match csW w (k + 1) T with
      | none => []
      | some z => wrL w k z.1 (wN w (972 + 5 * z.2 + 1))) := rfl
    refine ⟨ni_in (by omega) (by omega), ni_in (by omega) (by omega), ni_in (by omega) (by omega), ni_in (by omega) (by omega), 120 + 5 * l, hyP, hy, ?_⟩
    refine sc_wq (d := D' + 2) hp hr hF hG hx hy hx1.1 (by omega) hx1.2.1 hR1 hTb1 hTo ?_
    cases hc : csW w (k + 1) T with
    | none =>
      intro I2 f2
      rw [hc] at eL
      rw [eL] at kk
      refine am_back (v18_94 hp hl2 ?_)
      rw [if_pos rfl, ni_p1]
      refine kk I2 J (wrH.cons ?_ ?_ ?_ wrH.nil) (hK1.of (fun c => f2 _ _ (by omega) (by omega)) rfl) (fun o c e1 e2 e3 e4 e5 e6 => ?_) (fun _ _ => rfl)
      · rw [f2 _ _ (by omega) (by omega)]; exact hg0
      · rw [f2 _ _ (by omega) (by omega)]; exact hg1
      · rw [f2 _ _ (by omega) (by omega)]; exact hg2
      · rw [f2 _ _ (by omega) (by omega)]
        by_cases e : o = 116
        · exact hfl o c e (by omega)
        · exact hf1 o c e
    | some z =>
      obtain ⟨B, q⟩ := z
      intro I2 hB hBo hq f2
      rw [hc] at eL
      rw [eL] at kk
      have ht8 := (hG.qu hq).2.2.1
      refine am_back (v18_94 hp hl2 ?_)
      have hR2 : cRs r I2 J w := hR1.low hr hG (fun o k ho => f2 _ _ (by omega) (by omega)) (fun _ _ => rfl)
      have h9 : I2 (r + 9) q = ni (wN w (972 + 5 * q + 1)) := (hR2.1.2.2.2.1 q hq).2.1.trans (hG.qu hq).2.2.2
      rw [if_neg (ni_neg1 (by omega)), ni_nat (show l < 2147483648 by omega), ni_nat (show q < 2147483648 by omega), ni_p1]
      refine ⟨ni_in (by omega) (by omega), 120 + 5 * l, hyP, hy, r, hF.1, rul_sh hr, ni_in (by omega) (by omega), ?_⟩
      rw [hB.1, h9]
      refine cFIL_all hp hr hF hG hs k (l + 1) (by omega) _ _ (120 + 5 * l) B.1 I2 J B (by omega) hy (by omega) (Or.inl (by omega)) hR2 hB hBo (hK1.of (fun c => f2 _ _ (by omega) (by omega)) rfl) (Nat.le_refl _) (fun i a b => absurd a (by omega)) (fun I3 J3 a1 a2 a3 a4 => am_back (v18_144 hp hy ?_))
      rw [ni_p1]
      have hf3 : ∀ o c, ¬ (o = 116 ∧ 3 * l ≤ c) → o ≠ 114 → o ≠ 115 → o ≠ 119 → ¬ (o = 112 ∧ c = 9) → ¬ (120 + 5 * l ≤ o ∧ o < 135) → I3 o c = I o c := fun o c e1 e2 e3 e4 e5 e6 => by
        rw [a3 o c (by omega) e2 e3 e4 e5 (by omega), f2 _ _ (by omega) (by omega)]
        by_cases e : o = 116
        · exact hfl o c e (by omega)
        · exact hf1 o c e
      refine ih (l + 1) (by omega) (120 + 5 * l) (wN w (972 + 5 * q + 1)) B I3 J3 _ _ _ hl2 (by rw [if_neg (by omega)]; omega) (hR2.low hr hG (fun o c ho => a3 o c (by omega) (by omega) (by omega) (by omega) (by omega) (by omega)) (fun o ho => a4 o (by omega))) a1 hBo a2 ht8 (fun I4 J4 b1 b2 b3 b4 => ?_)
      have hc4 : ∀ c, c < 3 * (l + 1) → I4 116 c = I1 116 c := fun c hc => by
        rw [b3 116 c (by omega) (by omega) (by omega) (by omega) (by omega) (by omega), a3 116 c (by omega) (by omega) (by omega) (by omega) (by omega) (by omega), f2 _ _ (by omega) (by omega)]
      rw [show l + ((gtE w (k + 1) T s T.1, s, T.1) :: wrL w k B (wN w (972 + 5 * q + 1))).length = l + 1 + (wrL w k B (wN w (972 + 5 * q + 1))).length by simp only [List.length_cons]; omega] at kk
      refine kk I4 J4 (wrH.cons ?_ ?_ ?_ b1) b2 (fun o c e1 e2 e3 e4 e5 e6 => ?_) (a4.trans b4)
      · rw [hc4 _ (by omega)]; exact hg0
      · rw [hc4 _ (by omega)]; exact hg1
      · rw [hc4 _ (by omega)]; exact hg2
      · rw [b3 o c (by omega) e2 e3 e4 e5 (by omega)]
        exact hf3 o c e1 e2 e3 e4 e5 e6
end WRC
