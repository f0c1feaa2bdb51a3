/-! Bodies of quotations -/
def aBd (w : Nat → Int32) (T : TX) (q i : Nat) : Int32 := match unq w T q i with
  | none => -1
  | some z => ni z.1.1
def aIn (w : Nat → Int32) (T : TX) (q i x : Nat) : Int32 := match unq w T q i with
  | none => -1
  | some z => if z.1.1 ≤ x then -1 else z.1.2 x
/-- a quotation and a place -/
noncomputable def qQu (n m : Nat) (f : Nat → Nat → Int32) (x1 x2 : Int32) : Sum Nat Int32 := cif (inC x1 n ∧ inC x2 m) (.inr (f x1.toNatClampNeg x2.toNatClampNeg)) (.inl 0)
theorem qQu_t {n m a c : Nat} {f : Nat → Nat → Int32} (h1 : a < n) (hn : n < 2147483648) (h2 : c < m) (hm : m < 2147483648) : qQu n m f (ni a) (ni c) = .inr (f a c) := by
  unfold qQu
  rw [cif_t ⟨⟨a, rfl, h1⟩, ⟨c, rfl, h2⟩⟩, ni_nat (by omega), ni_nat (by omega)]
theorem qQu_f {n m : Nat} {f : Nat → Nat → Int32} {x1 x2 : Int32} (h : ¬ (inC x1 n ∧ inC x2 m)) : qQu n m f x1 x2 = .inl 0 := cif_f h
theorem cQ.mid {r : Nat} (hr : r = 16 ∨ r = 55) {I I' : am_I} {J : am_J} {w : Nat → Int32} {T : TX} (hG : WG w) (h : cQ r I J w T) (f : ∀ o k, ¬ (140 ≤ o ∧ o ≤ 144) → I' o k = I o k) : cQ r I' J w T := by
  obtain ⟨h1, h2, h3, h4, h5⟩ := h
  refine ⟨h1.mid hr hG (fun o k a b => f o k (by omega)) (fun _ _ => rfl), ⟨by rw [f _ _ (by omega)]; exact h2.1, h2.2.1, fun i hi => by rw [f _ _ (by omega)]; exact h2.2.2 i hi⟩, h3, h4.of (fun k => f _ _ (by omega)) rfl, ?_⟩
  rw [f 0 12 (by omega)]
  rcases h5 with z | ⟨g1, g2, g3⟩
  · exact Or.inl z
  · refine Or.inr ⟨g1.of (fun o y a b => f o y (by omega)), ?_, g3.of (fun y _ _ => f _ _ (by omega)) (fun y => f _ _ (by omega))⟩
    rcases g2 with z | z
    · exact Or.inl (by rw [f _ _ (by omega)]; exact z)
    · exact Or.inr (z.of (f _ _ (by omega)) (fun y => f _ _ (by omega)))
theorem rQ.ofU {I I' : am_I} {w : Nat → Int32} {T : TX} (h : rQ I w T) (f : rUf 0 I I') : rQ I' w T := by
  have f' : ∀ o k, o ≠ 183 → I' o k = I o k := fun o k e => f o k (by omega)
  obtain ⟨h1, h2, h3, h4, h5, h6⟩ := h
  refine ⟨by rw [← h1]; funext y; exact f' _ _ (by omega), fun s h8 => by rw [f' _ _ (by omega)]; exact h2 s h8, ⟨by rw [f' _ _ (by omega)]; exact h3.1, h3.2.1, fun i hi => by rw [f' _ _ (by omega)]; exact h3.2.2 i hi⟩, h4, h5.of (f' _ _ (by omega)) (fun k => f' _ _ (by omega)), ?_⟩
  rw [f' 163 46 (by omega)]
  rcases h6 with z | ⟨g1, ⟨H, b1, b2, b3⟩, b4⟩
  · exact Or.inl z
  · exact Or.inr ⟨g1.of f (Nat.le_refl 0), ⟨H, fun c hc => by rw [f' _ _ (by omega)]; exact b1 c hc, b2, b3⟩, fun q i hq hi => by rw [f' _ _ (by omega), f' _ _ (by omega)]; exact b4 q i hq hi⟩
section BDY
variable {P : am_O → Prop} {J : am_J} {Pf : am_R} {T : TX} {w : Nat → Int32} {r : Nat}
theorem sc_bodyq (hp : am_PF Pf) (hr : r = 16 ∨ r = 55) (hr2 : Pf 0 2 = some r) (hG : WG w) {I : am_I} (hQ : cQ r I J w T) {D : Nat} (hD : 20 ≤ D) {x1 x2 : Int32} (kk : cA P Pf r w T I J (qQu (wN w 2) T.1 (aBd w T) x1 x2)) : am_mth D 165 [.ref 0, .int x1, .int x2] (am_SH, I, J, Pf) P := by
  obtain ⟨D', rfl⟩ : ∃ D', D = D' + 10 := ⟨D - 10, by omega⟩
  obtain ⟨-, -, ⟨w2, w2'⟩, -⟩ := id hG.1
  have hrs := rul_sh hr
  have h24 := hQ.2.1.2.1
  have hI : I r 9 = ni (wN w 2) := hQ.1.1.1.2.2.1.trans w2
  refine am_mth_of rfl rfl (v165_0 hp ⟨r, hr2, hrs, ?_⟩)
  rw [hI]
  refine sc_inC (d := D' + 3) hp (by omega) (fun q hq hqn => am_back (v165_12 hp ?_)) (fun hb => am_thru rfl ?_)
  · rw [hQ.2.1.1]
    refine sc_inC (d := D' + 3) hp (by omega) (fun i hi hin => am_back (v165_24 hp ⟨r, hr2, hrs, ?_⟩)) (fun hb => am_thru rfl ?_)
    · subst hq hi
      rw [qQu_t hqn (by omega) hin (by omega)] at kk
      have hkk := fun I' (f : cTf 140 I I') => kk I' J (hQ.mid hr hG (fun o k e => f o k (by omega) (by omega))) (fun o k e1 e2 e3 e4 e5 => f o k (by omega) (by omega)) cQj.rfl'
      unfold aBd at hkk
      refine sc_body (d := D' + 8) (w := w) hp rfl (y := 140) rfl (Or.inl (by omega)) hr hQ.2.1 hQ.2.2.1 (show q < 4 by omega) (hQ.1.1.2.2.2.1 q hqn) (show i < 100 by omega) ?_
      cases hu : unq w T q i with
      | none =>
        rw [hu] at hkk
        intro I' f
        refine am_back (v165_41 hp ?_)
        rw [if_pos rfl]
        exact hkk I' f
      | some z =>
        obtain ⟨B, e⟩ := z
        rw [hu] at hkk
        intro I' hB hBo he f
        refine am_back (v165_41 hp ?_)
        rw [if_neg (ni_neg1 (by omega)), hB.1]
        exact hkk I' f
    · rw [qQu_f (fun z => hb z.2)] at kk
      exact kk
  · rw [qQu_f (fun z => hb z.1)] at kk
    exact kk
/-- the reference's guard of a quotation and a place -/
theorem sr_there (hp : am_PF Pf) {I : am_I} {n m d : Nat} (hn : n ≤ 8) (hm : m ≤ 24) (h0 : I 163 0 = 0) (hc : I 167 2 = ni n) (h180 : I 180 0 = ni m) {x1 x2 : Int32} (kk1 : ∀ q i, x1 = ni q → q < n → x2 = ni i → i < m → P (.inl (some (.int 1)), (am_SH, I, J, Pf), 0, 0)) (kk0 : ¬ (inC x1 n ∧ inC x2 m) → P (.inl (some (.int 0)), (am_SH, am_u (am_u I 163 0 1) 164 0 (I 164 0 + 1), J, Pf), 0, 0)) : am_mth (d + 2) 310 [.ref 163, .int x1, .int x2] (am_SH, I, J, Pf) P := by
  refine am_mth_of rfl rfl (v310_0 hp ?_)
  rw [if_pos h0, hc, h180]
  by_cases c1 : x1 < 0
  · rw [if_pos c1]; exact kk0 (fun z => inC_lo (by omega) c1 z.1)
  rw [if_neg c1]
  by_cases c2 : ni n - 1 < x1
  · rw [if_pos c2]; exact kk0 (fun z => inC_hi (by omega) ((ni_m1lt (by omega) c1).mp c2) z.1)
  rw [if_neg c2]
  by_cases c3 : x2 < 0
  · rw [if_pos c3]; exact kk0 (fun z => inC_lo (by omega) c3 z.2)
  rw [if_neg c3]
  by_cases c4 : ni m - 1 < x2
  · rw [if_pos c4]; exact kk0 (fun z => inC_hi (by omega) ((ni_m1lt (by omega) c3).mp c4) z.2)
  rw [if_neg c4, if_pos h0]
  obtain ⟨q, h1, h2⟩ := inC_of (n := n) (by omega) c1 (fun z => c2 ((ni_m1lt (by omega) c1).mpr z))
  obtain ⟨i, h3, h4⟩ := inC_of (n := m) (by omega) c3 (fun z => c4 ((ni_m1lt (by omega) c3).mpr z))
  exact kk1 q i h1 h2 h3 h4
theorem sr_bodyof (hp : am_PF Pf) (hG : WG w) (hs : sndW w) {I : am_I} (hQ : rQ I w T) (h0 : I 163 0 = 0) {q i D : Nat} (hD : 100 ≤ D) (hq : q < wN w 2) (hi : i < 100) (kk : ∀ I', rQ I' w T → rQf I I' → I' 163 0 = 0 → (∀ z, unq w T q i = some z → rTd 1 I' z.1) → P (.inl (some (.int (aBd w T q i))), (am_SH, I', J, Pf), 0, 0)) : am_mth D 311 [.ref 163, .int (ni q), .int (ni i)] (am_SH, I, J, Pf) P := by
  obtain ⟨D', rfl⟩ : ∃ D', D = D' + 4 := ⟨D - 4, by omega⟩
  refine am_mth_of rfl rfl (v311_0 hp ?_)
  refine sr_knows hp hG hs hQ (by omega) (fun I1 a1 a2 a3 => am_back (v311_4 hp ?_))
  have hK := a1.kn a2
  have b0 : I1 163 0 = 0 := by rw [a3 _ _ (by omega) (by omega)]; exact h0
  unfold aBd at kk
  rw [show (0 : Int32) = ni 0 from rfl]
  refine sr_unq (d0 := D' + 1) hp hG (Nat.zero_le 3) hK.1 hK.2.1 hQ.2.2.2.1 hq hi ?_
  cases hu : unq w T q i with
  | none =>
    rw [hu] at kk
    intro I' f
    refine am_back (v311_11 hp ?_)
    rw [if_pos rfl]
    exact kk I' (a1.ofU f) (fun o k e1 e2 e3 e4 => by rw [f o k (by omega), a3 o k (by omega) (by omega)]) (by rw [f _ _ (by omega)]; exact b0) (fun z hz => by cases hz)
  | some z =>
    obtain ⟨B, e⟩ := z
    rw [hu] at kk
    intro I' hB hBo he f
    have h24 := hK.2.1.2.1
    refine am_back (v311_11 hp ?_)
    rw [if_neg (ni_neg1 (by omega)), show ((25 : Int32) * 1).toNatClampNeg = 25 * 1 from by decide, hB.1]
    exact ⟨by decide, kk I' (a1.ofU f) (fun o k e1 e2 e3 e4 => by rw [f o k (by omega), a3 o k (by omega) (by omega)]) (by rw [f _ _ (by omega)]; exact b0) (fun z hz => by cases hz; exact hB)⟩
theorem sr_bodyq (hp : am_PF Pf) (hG : WG w) (hs : sndW w) {I : am_I} (hQ : rQ I w T) {D : Nat} (hD : 110 ≤ D) {x1 x2 : Int32} (kk : rA P J Pf w T I cd1 (qQu (wN w 2) T.1 (aBd w T) x1 x2)) : am_mth D 312 [.ref 163, .int x1, .int x2] (am_SH, I, J, Pf) P := by
  obtain ⟨D', rfl⟩ : ∃ D', D = D' + 4 := ⟨D - 4, by omega⟩
  have h24 := hQ.2.2.1.2.1
  obtain ⟨-, -, ⟨w2, w2'⟩, -⟩ := id hG.1
  have hz : (am_u I 163 0 0) 163 0 = 0 := am_u_same
  have h167 : ∀ y, (am_u I 163 0 0) 167 y = w y := fun y => (am_u_nq (by omega)).trans (congrFun hQ.1 y)
  refine am_mth_of rfl rfl (v312_0 hp ?_)
  refine sr_there (d := D' + 1) hp (show wN w 2 ≤ 8 by omega) h24 hz ((h167 2).trans w2) ((am_u_nq (by omega)).trans hQ.2.2.1.1) (fun q i h1 h2 h3 h4 => am_back (v312_11 hp ?_)) (fun hb => am_back (v312_11 hp ?_))
  · rw [if_neg (by decide)]
    subst h1 h3
    rw [qQu_t h2 (by omega) h4 (by omega)] at kk
    exact sr_bodyof hp hG hs hQ.z am_u_same (by omega) h2 (by omega) (fun I' a1 a2 a3 a4 => am_back (v312_22 hp (kk I' a1 (fun o k e1 e2 e3 e4 => by rw [a2 o k e1 e2 e3 e4, am_u_nq (by omega)]) a3)))
  · rw [if_pos rfl, rTh2 rfl]
    rw [qQu_f hb] at kk
    exact kk
end BDY
