/-! Why a text is not of a sort: the class's answer -/
noncomputable def aWr (w : Nat → Int32) (T : TX) (s x c : Nat) : Int32 := if 0 < HHx w 3 T s 0 T.1 then -1 else match (wrL w 3 T s)[x]? with
  | none => -1
  | some z => ni (if c = 0 then z.1 else if c = 1 then z.2.1 else z.2.2)
/-- a sort, a number, what is asked -/
noncomputable def qSn (m : Nat) (f : Nat → Nat → Nat → Int32) (x1 x2 x3 : Int32) : Sum Nat Int32 := cif (inW x1 7 ∧ inW x2 2147483647 ∧ inW x3 m) (.inr (f x1.toNatClampNeg x2.toNatClampNeg x3.toNatClampNeg)) (.inl 1)
theorem qSn_t {m s x c : Nat} {f : Nat → Nat → Nat → Int32} (h7 : s ≤ 7) (hx : x ≤ 2147483647) (hc : c ≤ m) (hm : m < 100) : qSn m f (ni s) (ni x) (ni c) = .inr (f s x c) := by
  unfold qSn
  rw [cif_t ⟨⟨s, rfl, h7⟩, ⟨x, rfl, hx⟩, ⟨c, rfl, hc⟩⟩, ni_nat (by omega), ni_nat (by omega), ni_nat (by omega)]
theorem qSn_f {m : Nat} {f : Nat → Nat → Nat → Int32} {x1 x2 x3 : Int32} (h : ¬ (inW x1 7 ∧ inW x2 2147483647 ∧ inW x3 m)) : qSn m f x1 x2 x3 = .inl 1 := cif_f h
/-- what a question of tried texts leaves -/
theorem cQ.aft {r : Nat} (hr : r = 16 ∨ r = 55) {I I' : am_I} {J J' : am_J} {w : Nat → Int32} {T : TX} (hG : WG w) (h : cQ r I J w T) (hK : cKp I' J' w) (f : ∀ o k, ¬ (112 ≤ o ∧ o ≤ 134) → ¬ (140 ≤ o ∧ o ≤ 144) → ¬ (o = 0 ∧ k = 17) → I' o k = I o k) (g : ∀ o, o < 112 → J' o = J o) : cQ r I' J' w T := by
  obtain ⟨h1, h2, h3, h4, h5⟩ := h
  refine ⟨h1.mid hr hG (fun o k a b => f o k (by omega) (by omega) (by omega)) g, ⟨by rw [f _ _ (by omega) (by omega) (by omega)]; exact h2.1, h2.2.1, fun i hi => by rw [f _ _ (by omega) (by omega) (by omega)]; exact h2.2.2 i hi⟩, h3, hK, ?_⟩
  rw [f 0 12 (by omega) (by omega) (by omega)]
  rcases h5 with z | ⟨g1, g2, g3⟩
  · exact Or.inl z
  · refine Or.inr ⟨g1.of (fun o y a b => f o y (by omega) (by omega) (by omega)), ?_, g3.of (fun y _ _ => f _ _ (by omega) (by omega) (by omega)) (fun y => f _ _ (by omega) (by omega) (by omega))⟩
    rcases g2 with z | z
    · exact Or.inl (by rw [f _ _ (by omega) (by omega) (by omega)]; exact z)
    · exact Or.inr (z.of (f _ _ (by omega) (by omega) (by omega)) (fun y => f _ _ (by omega) (by omega) (by omega)))
theorem ix3 {x c : Nat} (hx : x < 4) (hc : c < 3) : (ni x * 3) + ni c = ni (3 * x + c) ∧ (ni (3 * x + c)).toNatClampNeg = 3 * x + c := by
  rw [show (3 : Int32) = ni 3 from rfl, ni_mul, ni_add, show x * 3 + c = 3 * x + c by omega]
  exact ⟨rfl, ni_nat (by omega)⟩
theorem wrH.at {o : Nat} {I : am_I} {L : List (Nat × Nat × Nat)} (h : wrH o I 0 L) {x c : Nat} {z : Nat × Nat × Nat} (hz : L[x]? = some z) (hc : c < 3) : I o (3 * x + c) = ni (if c = 0 then z.1 else if c = 1 then z.2.1 else z.2.2) := by
  obtain ⟨h0, h1, h2⟩ := h x z hz
  rw [Nat.zero_add] at h0 h1 h2
  have e : c = 0 ∨ c = 1 ∨ c = 2 := by omega
  rcases e with rfl | rfl | rfl
  · rw [if_pos rfl]; exact h0
  · rw [if_neg (by decide), if_pos rfl]; exact h1
  · rw [if_neg (by decide), if_neg (by decide)]; exact h2
section WRA
variable {P : am_O → Prop} {J : am_J} {Pf : am_R} {T : TX} {w : Nat → Int32} {r : Nat}
theorem sc_wrongq (hp : am_PF Pf) (hr : r = 16 ∨ r = 55) (hF : cFn Pf r) (hG : WG w) (hs : sndW w) {I : am_I} (hQ : cQ r I J w T) {D : Nat} (hD : 130 ≤ D) {x1 x2 x3 : Int32} (kk : cA P Pf r w T I J (qSn 2 (aWr w T) x1 x2 x3)) : am_mth D 164 [.ref 0, .int x1, .int x2, .int x3] (am_SH, I, J, Pf) P := by
  obtain ⟨D', rfl⟩ : ∃ D', D = D' + 10 := ⟨D - 10, by omega⟩
  have h24 := hQ.2.1.2.1
  refine am_mth_of rfl rfl (v164_0 hp ?_)
  refine sc_nsort (d := D' + 2) hp (fun s hs1 h8 => am_back (v164_5 hp ?_)) (fun hb => am_thru rfl ?_)
  · rw [show (2147483647 : Int32) = ni 2147483647 from rfl]
    refine sc_in (d := D' + 3) (n := 2147483647) hp (by omega) (fun x hx hx2 => am_back (v164_14 hp ?_)) (fun hb => am_thru rfl ?_)
    · rw [show (2 : Int32) = ni 2 from rfl]
      refine sc_in (d := D' + 3) (n := 2) hp (by omega) (fun c hc hc2 => am_back (v164_21 hp ?_)) (fun hb => am_thru rfl ?_)
      · subst hs1 hx hc
        rw [qSn_t (show s ≤ 7 by omega) hx2 hc2 (by omega)] at kk
        refine sc_gk hp hr hF hG hs hQ (by omega) (fun I1 J1 a1 a2 a3 a4 => am_back (v164_25 hp ?_))
        have hrow := (a1.2.1.2.2 0 (Nat.zero_le _)).1 s h8
        refine am_mth_of rfl rfl (v18_0 hp rfl ?_)
        rw [show (25 : Int32) = ni 25 from rfl, ni_mul, Int32.add_zero, show (ni (s * 25)).toNatClampNeg = 25 * s + 0 by rw [ni_nat (by omega)]; omega, a1.2.1.1.1]
        refine ⟨ni_in (by omega) (by omega), ?_⟩
        by_cases c0 : 0 < HHx w 3 T s 0 T.1
        · rw [if_neg (fun z => (bts_us hrow (by omega)).mp z ⟨Nat.zero_le _, Nat.le_refl _, c0⟩)]
          refine am_back (v164_38 hp ?_)
          rw [if_neg (fun z => absurd ((llt 0 (by omega) (by omega)).mp z) (by omega))]
          have hkk := kk I1 J1 a1.q a2 a3
          unfold aWr at hkk
          rw [if_pos c0] at hkk
          exact hkk
        · rw [if_pos ((bts_us hrow (by omega)).mpr (fun z => c0 z.2.2)), show (0 : Int32) = ni 0 from rfl]
          have hlen := wrL_len (w := w) 3 T s
          refine sc_expl hp hr hF hG hs (D := D' + 8) (by omega) 3 0 rfl 135 s T I1 J1 _ _ _ rfl rfl a1.1 a1.2.1 a1.2.2.1 a1.2.2.2.1 h8 (fun I2 J2 b1 b2 b3 b4 => am_back (v164_38 hp ?_))
          rw [Nat.zero_add] at *
          have hQ2 : cQ r I2 J2 w T := a1.q.aft hr hG b2 (fun o k e1 e2 e3 => b3 o k (by omega) (by omega) (by omega) (by omega) (by omega) (by omega)) (fun o ho => b4 o (by omega))
          have hkk := kk I2 J2 hQ2 (a2.trans (fun o k e1 e2 e3 e4 e5 => b3 o k (by omega) (by omega) (by omega) (by omega) (by omega) (by omega))) (a3.trans b4.q)
          unfold aWr at hkk
          rw [if_neg c0] at hkk
          cases hz : (wrL w 3 T s)[x]? with
          | none =>
            rw [hz] at hkk
            have : (wrL w 3 T s).length ≤ x := List.getElem?_eq_none_iff.mp hz
            rw [if_neg (fun z => absurd ((ni_lt (by omega) (by omega)).mp z) (by omega))]
            exact hkk
          | some z =>
            rw [hz] at hkk
            have hx4 : x < (wrL w 3 T s).length := (List.getElem?_eq_some_iff.mp hz).1
            rw [if_pos ((ni_lt (by omega) (by omega)).mpr hx4), (ix3 (show x < 4 by omega) (show c < 3 by omega)).1, (ix3 (show x < 4 by omega) (show c < 3 by omega)).2, b1.at hz (by omega)]
            exact ⟨ni_in (by omega) (by omega), hkk⟩
      · rw [qSn_f (fun z => hb z.2.2)] at kk
        exact kk
    · rw [qSn_f (fun z => hb z.2.1)] at kk
      exact kk
  · rw [qSn_f (fun z => hb z.1)] at kk
    exact kk
end WRA
