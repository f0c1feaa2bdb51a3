/-! Inside a quotation -/
noncomputable def qIn (n m : Nat) (f : Nat → Nat → Nat → Int32) (x1 x2 x3 : Int32) : Sum Nat Int32 := cif (inC x1 n ∧ inC x2 m) (cif (inW x3 2147483647) (.inr (f x1.toNatClampNeg x2.toNatClampNeg x3.toNatClampNeg)) (.inl 1)) (.inl 0)
theorem qIn_t {n m a c x : Nat} {f : Nat → Nat → Nat → Int32} (h1 : a < n) (hn : n < 2147483648) (h2 : c < m) (hm : m < 2147483648) (hx : x ≤ 2147483647) : qIn n m f (ni a) (ni c) (ni x) = .inr (f a c x) := by
  unfold qIn
  rw [cif_t ⟨⟨a, rfl, h1⟩, ⟨c, rfl, h2⟩⟩, cif_t ⟨x, rfl, hx⟩, ni_nat (by omega), ni_nat (by omega), ni_nat (by omega)]
theorem qIn_1 {n m : Nat} {f : Nat → Nat → Nat → Int32} {x1 x2 x3 : Int32} (h : inC x1 n ∧ inC x2 m) (h2 : ¬ inW x3 2147483647) : qIn n m f x1 x2 x3 = .inl 1 := by
  unfold qIn
  rw [cif_t h, cif_f h2]
theorem qIn_0 {n m : Nat} {f : Nat → Nat → Nat → Int32} {x1 x2 x3 : Int32} (h : ¬ (inC x1 n ∧ inC x2 m)) : qIn n m f x1 x2 x3 = .inl 0 := cif_f h
section INS
variable {P : am_O → Prop} {J : am_J} {Pf : am_R} {T : TX} {w : Nat → Int32} {r : Nat}
theorem sc_insideq (hp : am_PF Pf) (hr : r = 16 ∨ r = 55) (hr2 : Pf 0 2 = some r) (hG : WG w) {I : am_I} (hQ : cQ r I J w T) {D : Nat} (hD : 20 ≤ D) {x1 x2 x3 : Int32} (kk : cA P Pf r w T I J (qIn (wN w 2) T.1 (aIn w T) x1 x2 x3)) : am_mth D 166 [.ref 0, .int x1, .int x2, .int x3] (am_SH, I, J, Pf) P := by
  obtain ⟨D', rfl⟩ : ∃ D', D = D' + 10 := ⟨D - 10, by omega⟩
  obtain ⟨-, -, ⟨w2, w2'⟩, -⟩ := id hG.1
  have hrs := rul_sh hr
  have h24 := hQ.2.1.2.1
  have hI : I r 9 = ni (wN w 2) := hQ.1.1.1.2.2.1.trans w2
  refine am_mth_of rfl rfl (v166_0 hp ⟨r, hr2, hrs, ?_⟩)
  rw [hI]
  refine sc_inC (d := D' + 3) hp (by omega) (fun q hq hqn => am_back (v166_12 hp ?_)) (fun hb => am_thru rfl ?_)
  · rw [hQ.2.1.1]
    refine sc_inC (d := D' + 3) hp (by omega) (fun i hi hin => am_back (v166_24 hp ?_)) (fun hb => am_thru rfl ?_)
    · rw [show (2147483647 : Int32) = ni 2147483647 from rfl]
      refine sc_in (d := D' + 3) (n := 2147483647) hp (by omega) (fun x hx hx3 => am_back (v166_33 hp ⟨r, hr2, hrs, ?_⟩)) (fun hb => am_thru rfl ?_)
      · subst hq hi hx
        rw [qIn_t hqn (by omega) hin (by omega) hx3] at kk
        have hkk := fun I' (f : cTf 140 I I') => kk I' J (hQ.mid hr hG (fun o k e => f o k (by omega) (by omega))) (fun o k e1 e2 e3 e4 e5 => f o k (by omega) (by omega)) cQj.rfl'
        unfold aIn at hkk
        refine sc_body (d := D' + 8) (w := w) hp rfl (y := 140) rfl (Or.inl (by omega)) hr hQ.2.1 hQ.2.2.1 (show q < 4 by omega) (hQ.1.1.2.2.2.1 q hqn) (show i < 100 by omega) ?_
        cases hu : unq w T q i with
        | none =>
          rw [hu] at hkk
          intro I' f
          refine am_back (v166_50 hp ?_)
          rw [if_pos rfl]
          exact hkk I' f
        | some z =>
          obtain ⟨B, e⟩ := z
          rw [hu] at hkk
          intro I' hB hBo he f
          have hB24 : B.1 ≤ 24 := hB.2.1
          have hkk2 : P (.inl (some (.int (if B.1 ≤ x then -1 else B.2 x))), (am_SH, I', J, Pf), 0, 0) := hkk I' f
          refine am_back (v166_50 hp ?_)
          rw [if_neg (ni_neg1 (by omega)), hB.1]
          by_cases c : B.1 ≤ x
          · rw [if_pos c] at hkk2
            rw [if_pos ((ni_le (by omega) (by omega)).mpr c)]; exact hkk2
          · rw [if_neg c] at hkk2
            rw [if_neg (fun z => c ((ni_le (by omega) (by omega)).mp z)), show (ni x).toNatClampNeg = x from ni_nat (by omega), hB.2.2 x (show x < B.1 by omega)]
            exact ⟨ni_in (by omega) (by omega), hkk2⟩
      · rw [qIn_1 ⟨⟨q, hq, hqn⟩, ⟨i, hi, hin⟩⟩ hb] at kk
        exact kk
    · rw [qIn_0 (fun z => hb z.2)] at kk
      exact kk
  · rw [qIn_0 (fun z => hb z.1)] at kk
    exact kk
theorem sr_insideq (hp : am_PF Pf) (hG : WG w) (hs : sndW w) {I : am_I} (hQ : rQ I w T) {D : Nat} (hD : 110 ≤ D) {x1 x2 x3 : Int32} (kk : rA P J Pf w T I cd2 (qIn (wN w 2) T.1 (aIn w T) x1 x2 x3)) : am_mth D 313 [.ref 163, .int x1, .int x2, .int x3] (am_SH, I, J, Pf) P := by
  obtain ⟨D', rfl⟩ : ∃ D', D = D' + 4 := ⟨D - 4, by omega⟩
  have h24 := hQ.2.2.1.2.1
  obtain ⟨-, -, ⟨w2, w2'⟩, -⟩ := id hG.1
  have hz : (am_u I 163 0 0) 163 0 = 0 := am_u_same
  have h167 : ∀ y, (am_u I 163 0 0) 167 y = w y := fun y => (am_u_nq (by omega)).trans (congrFun hQ.1 y)
  refine am_mth_of rfl rfl (v313_0 hp ?_)
  refine sr_there (d := D' + 1) hp (show wN w 2 ≤ 8 by omega) h24 hz ((h167 2).trans w2) ((am_u_nq (by omega)).trans hQ.2.2.1.1) (fun q i h1 h2 h3 h4 => am_back (v313_11 hp ?_)) (fun hb => am_back (v313_11 hp ?_))
  · rw [if_neg (by decide), if_pos hz, if_pos hz]
    by_cases c1 : x3 < 0
    · rw [if_pos c1, rTh2 rfl]
      rw [qIn_1 ⟨⟨q, h1, h2⟩, ⟨i, h3, h4⟩⟩ (inW_lo (by omega) c1)] at kk
      exact kk
    rw [if_neg c1]
    obtain ⟨x, hx, hx3⟩ := inW_of (n := 2147483647) (by omega) c1 (fun z => by
      rw [Int32.lt_iff_toInt_lt, ni_int (by omega)] at z
      have := Int32.toInt_lt x3
      omega)
    subst h1 h3 hx
    rw [qIn_t h2 (by omega) h4 (by omega) hx3] at kk
    refine sr_bodyof hp hG hs hQ.z am_u_same (by omega) h2 (by omega) (fun I' a1 a2 a3 a4 => am_back (v313_41 hp ?_))
    have hkk := kk I' a1 (fun o k e1 e2 e3 e4 => by rw [a2 o k e1 e2 e3 e4, am_u_nq (by omega)]) a3
    unfold aIn at hkk
    unfold aBd
    cases hu : unq w T q i with
    | none =>
      rw [hu] at hkk
      have e : (-1 : Int32) ≤ ni x := by
        rw [Int32.le_iff_toInt_le, ni_int (by omega)]
        have : (-1 : Int32).toInt = -1 := by decide
        omega
      show (if (-1 : Int32) ≤ ni x then _ else _)
      rw [if_pos e]
      exact hkk
    | some z =>
      have hB := a4 z hu
      obtain ⟨B, e⟩ := z
      rw [hu] at hkk
      have hB24 : B.1 ≤ 24 := hB.2.1
      have hkk2 : P (.inl (some (.int (if B.1 ≤ x then -1 else B.2 x))), (am_SH, I', J, Pf), 0, 0) := hkk
      show (if ni B.1 ≤ ni x then _ else _)
      by_cases c : B.1 ≤ x
      · rw [if_pos c] at hkk2
        rw [if_pos ((ni_le (by omega) (by omega)).mpr c)]; exact hkk2
      · rw [if_neg c] at hkk2
        rw [if_neg (fun z => c ((ni_le (by omega) (by omega)).mp z)), show (25 : Int32) * 1 + 1 + ni x = ni (25 * 1 + 1 + x) by rw [show (25 : Int32) * 1 + 1 = ni (25 * 1 + 1) from by decide, ni_add], show (ni (25 * 1 + 1 + x)).toNatClampNeg = 25 * 1 + 1 + x from ni_nat (by omega), hB.2.2 x (show x < B.1 by omega)]
        exact ⟨ni_in (by omega) (by omega), hkk2⟩
  · rw [if_pos rfl, rTh2 rfl]
    rw [qIn_0 hb] at kk
    exact kk
end INS
