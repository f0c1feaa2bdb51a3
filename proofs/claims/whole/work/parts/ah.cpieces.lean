/-! The class's answers of pieces -/
theorem cKw.mid {r : Nat} (hr : r = 16 ∨ r = 55) {I I' : am_I} {J : am_J} {w : Nat → Int32} {T : TX} (hG : WG w) (h : cKw r I J w T) (f : ∀ o k, ¬ (o = 145 ∧ k ≠ 2) → (o < 97 ∨ o = 119 ∨ (135 ≤ o ∧ o ≤ 139)) → I' o k = I o k) (g1 : I' 145 2 = 0 ∨ cMd I' T.1 (HHx w 3 T)) (g2 : cGs I' w 3 T) : cKw r I' J w T :=
  ⟨h.1.mid hr hG (fun o k h1 h2 => f o k (by omega) (by omega)) (fun _ _ => rfl), h.2.1.of (fun o y h1 h2 => f o y (by omega) (by omega)), h.2.2.1, h.2.2.2.1.of (fun k => f _ _ (by omega) (by omega)) rfl, g1, g2⟩
theorem cGs.of {I I' : am_I} {w : Nat → Int32} {k0 : Nat} {T : TX} (h : cGs I w k0 T) (f1 : ∀ y, 6 ≤ y → y ≤ 9 → I' 145 y = I 145 y) (f2 : ∀ y, I' 149 y = I 149 y) : cGs I' w k0 T := by
  intro s i j h8 hij hj hpos e1 e2 e3
  rw [f1 _ (by omega) (by omega)] at e1 e2 e3
  obtain ⟨g1, g2⟩ := h s i j h8 hij hj hpos e1 e2 e3
  exact ⟨by rw [f1 _ (by omega) (by omega)]; exact g1, fun x n hx => (g2 x n hx).of (fun y _ => f2 _)⟩
theorem cMd.of {I I' : am_I} {n : Nat} {H : Nat → Nat → Nat → Nat} (h : cMd I n H) (f1 : I' 145 2 = I 145 2) (f2 : ∀ y, I' 146 y = I 146 y) : cMd I' n H := ⟨by rw [f1]; exact h.1, fun s i j h8 hij hj z => by rw [f2]; exact h.2 s i j h8 hij hj z⟩
noncomputable def aEn (w : Nat → Int32) (T : TX) (s i : Nat) : Int32 := bsV (fun j => i ≤ j ∧ j ≤ T.1 ∧ 0 < HHx w 3 T s i j)
section ANC
variable {P : am_O → Prop} {J : am_J} {Pf : am_R} {T : TX} {w : Nat → Int32} {r : Nat}
/-- the class knows, then -/
theorem sc_gk (hp : am_PF Pf) (hr : r = 16 ∨ r = 55) (hF : cFn Pf r) (hG : WG w) (hs : sndW w) {I : am_I} (hQ : cQ r I J w T) {D : Nat} (hD : 110 ≤ D) {Q : am_O → Prop} (kk : ∀ I' J', cKw r I' J' w T → cQf I I' → cQj J J' → ¬ I' 0 12 = 0 → Q (.inl none, (am_SH, I', J', Pf), 0, 0)) : am_mth D 180 [.ref 0] (am_SH, I, J, Pf) Q :=
  sc_look hp hr hF hG hs hQ hD (fun I' J' a1 a2 a3 a4 => kk I' J' a1 (fun o k e1 e2 e3 e4 e5 => a3 o k (by omega) (by omega) (by omega) (by omega)) a4.q a2)
theorem row138 {I : am_I} {s i : Nat} (h : cTb 135 I w 3 T) (h8 : s < 8) (hi : i ≤ T.1) : ni s * 25 + ni i = ni (25 * s + i) ∧ am_in (ni (25 * s + i)) 200 = true ∧ (ni (25 * s + i)).toNatClampNeg = 25 * s + i ∧ bts (I 138 (25 * s + i)) (fun e => i ≤ e ∧ e ≤ T.1 ∧ pos (HHx w 3 T) s i e) := by
  have := h.1.2.1
  refine ⟨?_, ni_in (by omega) (by omega), ni_nat (by omega), (h.2.2 i hi).1 s h8⟩
  rw [show (25 : Int32) = ni 25 from rfl, ni_mul, ni_add]
  congr 1
  omega
theorem sc_is (hp : am_PF Pf) (hr : r = 16 ∨ r = 55) (hF : cFn Pf r) (hG : WG w) (hs : sndW w) {I : am_I} (hQ : cQ r I J w T) {D : Nat} (hD : 130 ≤ D) {x1 x2 x3 : Int32} (kk : cA P Pf r w T I J (qPc T.1 (aIs w T) x1 x2 x3)) : am_mth D 156 [.ref 0, .int x1, .int x2, .int x3] (am_SH, I, J, Pf) P := by
  obtain ⟨D', rfl⟩ : ∃ D', D = D' + 10 := ⟨D - 10, by omega⟩
  have h24 := hQ.2.1.2.1
  refine am_mth_of rfl rfl (v156_0 hp ?_)
  refine sc_npiece (d := D' + 1) hp h24 hQ.2.1.1 (fun s i j h1 h2 h3 h8 hij hj => am_back (v156_7 hp ?_)) (fun hb => am_thru rfl ?_)
  · subst h1 h2 h3
    rw [qPc_t h8 hij hj h24] at kk
    refine sc_gk hp hr hF hG hs hQ (by omega) (fun I' J' a1 a2 a3 a4 => am_back (v156_11 hp ?_))
    obtain ⟨b1, b2, b3, b4⟩ := row138 a1.2.1 h8 (show i ≤ T.1 by omega)
    rw [b1, b3]
    refine ⟨b2, ?_⟩
    have := kk I' J' a1.q a2 a3
    unfold aIs at this
    by_cases c : HHx w 3 T s i j = 0
    · rw [if_pos c] at this
      rw [if_pos ((bts_us b4 (by omega)).mpr (fun z => by have := z.2.2; unfold pos at this; omega))]
      exact this
    · rw [if_neg c] at this
      rw [if_neg (fun z => (bts_us b4 (by omega)).mp z ⟨hij, hj, Nat.pos_of_ne_zero c⟩)]
      exact this
  · rw [qPc_f hb] at kk
    exact kk
theorem sc_wy (hp : am_PF Pf) (hr : r = 16 ∨ r = 55) (hF : cFn Pf r) (hG : WG w) (hs : sndW w) {I : am_I} (hQ : cQ r I J w T) {D : Nat} (hD : 130 ≤ D) {x1 x2 x3 : Int32} (kk : cA P Pf r w T I J (qPc T.1 (aWy w T) x1 x2 x3)) : am_mth D 158 [.ref 0, .int x1, .int x2, .int x3] (am_SH, I, J, Pf) P := by
  obtain ⟨D', rfl⟩ : ∃ D', D = D' + 10 := ⟨D - 10, by omega⟩
  have h24 := hQ.2.1.2.1
  refine am_mth_of rfl rfl (v158_0 hp ?_)
  refine sc_npiece (d := D' + 1) hp h24 hQ.2.1.1 (fun s i j h1 h2 h3 h8 hij hj => am_back (v158_7 hp ?_)) (fun hb => am_thru rfl ?_)
  · subst h1 h2 h3
    rw [qPc_t h8 hij hj h24] at kk
    refine sc_gk hp hr hF hG hs hQ (by omega) (fun I' J' a1 a2 a3 a4 => am_back (v158_11 hp ?_))
    refine sc_ways (d := D' + 5) hp hr hF hG a1.1 a1.2.1 a1.2.2.1 h8 hij hj (fun I2 c1 => am_back (v158_21 hp ?_))
    exact kk I2 J' (a1.mid hr hG (fun o k e1 e2 => c1 o k (by omega) (by omega)) (by rcases a1.2.2.2.2.1 with z | z; exact Or.inl ((c1 _ _ (by omega) (by omega)).trans z); exact Or.inr (z.of (c1 _ _ (by omega) (by omega)) (fun y => c1 _ _ (by omega) (by omega)))) (a1.2.2.2.2.2.of (fun y _ _ => c1 _ _ (by omega) (by omega)) (fun y => c1 _ _ (by omega) (by omega)))).q (a2.trans (fun o k e1 e2 e3 e4 e5 => c1 o k (by omega) (by omega))) a3
  · rw [qPc_f hb] at kk
    exact kk
theorem sc_ht (hp : am_PF Pf) (hr : r = 16 ∨ r = 55) (hF : cFn Pf r) (hG : WG w) (hs : sndW w) {I : am_I} (hQ : cQ r I J w T) {D : Nat} (hD : 130 ≤ D) {x1 x2 x3 : Int32} (kk : cA P Pf r w T I J (qPc T.1 (aHt w T) x1 x2 x3)) : am_mth D 159 [.ref 0, .int x1, .int x2, .int x3] (am_SH, I, J, Pf) P := by
  obtain ⟨D', rfl⟩ : ∃ D', D = D' + 10 := ⟨D - 10, by omega⟩
  have h24 := hQ.2.1.2.1
  refine am_mth_of rfl rfl (v159_0 hp ?_)
  refine sc_npiece (d := D' + 1) hp h24 hQ.2.1.1 (fun s i j h1 h2 h3 h8 hij hj => am_back (v159_7 hp ?_)) (fun hb => am_thru rfl ?_)
  · subst h1 h2 h3
    rw [qPc_t h8 hij hj h24] at kk
    refine sc_gk hp hr hF hG hs hQ (by omega) (fun I' J' a1 a2 a3 a4 => am_back (v159_11 hp ?_))
    refine sc_height (d := D' + 3) hp hr hF hG hs a1.1 a1.2.1 a1.2.2.1 a1.2.2.2.2.1 h8 hij hj (fun I2 b1 b2 => am_back (v159_21 hp ?_))
    refine kk I2 J' (a1.mid hr hG (fun o k e1 e2 => b2 o k (by omega) (by omega) (by omega) (by omega)) b1 ?_).q (a2.trans (fun o k e1 e2 e3 e4 e5 => b2 o k (by omega) (by omega) (by omega) (by omega))) a3
    exact a1.2.2.2.2.2.of (fun y _ _ => b2 _ _ (by omega) (by omega) (by omega) (by omega)) (fun y => b2 _ _ (by omega) (by omega) (by omega) (by omega))
  · rw [qPc_f hb] at kk
    exact kk
theorem sc_ns (hp : am_PF Pf) (hr : r = 16 ∨ r = 55) (hF : cFn Pf r) (hG : WG w) (hs : sndW w) {I : am_I} (hQ : cQ r I J w T) {D : Nat} (hD : 130 ≤ D) {x1 x2 x3 : Int32} (kk : cA P Pf r w T I J (qPc T.1 (aNs w T) x1 x2 x3)) : am_mth D 160 [.ref 0, .int x1, .int x2, .int x3] (am_SH, I, J, Pf) P := by
  obtain ⟨D', rfl⟩ : ∃ D', D = D' + 10 := ⟨D - 10, by omega⟩
  have h24 := hQ.2.1.2.1
  refine am_mth_of rfl rfl (v160_0 hp ?_)
  refine sc_npiece (d := D' + 1) hp h24 hQ.2.1.1 (fun s i j h1 h2 h3 h8 hij hj => am_back (v160_7 hp ?_)) (fun hb => am_thru rfl ?_)
  · subst h1 h2 h3
    rw [qPc_t h8 hij hj h24] at kk
    refine sc_gk hp hr hF hG hs hQ (by omega) (fun I' J' a1 a2 a3 a4 => am_back (v160_11 hp ?_))
    refine sc_grow (d := D' + 2) hp hr hF hG hs a1.1 a1.2.1 a1.2.2.1 a1.2.2.2.2.1 a1.2.2.2.2.2 h8 hij hj (fun I2 b1 b2 b3 b4 => am_back (v160_21 hp ?_))
    have e1 : (if HHx w 3 T s i j = 0 then (0 : Int32) else ni (treeW w T (HHx w 3 T) s i j).length) = aNs w T s i j := by
      unfold aNs trW
      split <;> rfl
    rw [e1]
    exact kk I2 J' (a1.mid hr hG (fun o k e1 e2 => b3 o k (by omega) (by omega)) b1 b2).q (a2.trans (fun o k e1 e2 e3 e4 e5 => b3 o k (by omega) (by omega))) a3
  · rw [qPc_f hb] at kk
    exact kk
theorem sc_en (hp : am_PF Pf) (hr : r = 16 ∨ r = 55) (hF : cFn Pf r) (hG : WG w) (hs : sndW w) {I : am_I} (hQ : cQ r I J w T) {D : Nat} (hD : 130 ≤ D) {x1 x2 : Int32} (kk : cA P Pf r w T I J (qPc T.1 (fun s i _ => aEn w T s i) x1 x2 x2)) : am_mth D 157 [.ref 0, .int x1, .int x2] (am_SH, I, J, Pf) P := by
  obtain ⟨D', rfl⟩ : ∃ D', D = D' + 10 := ⟨D - 10, by omega⟩
  have h24 := hQ.2.1.2.1
  refine am_mth_of rfl rfl (v157_0 hp ?_)
  refine sc_nsort (d := D' + 2) hp (fun s hs1 h8 => am_back (v157_5 hp ?_)) (fun hb => am_thru rfl ?_)
  · rw [hQ.2.1.1]
    refine sc_in (d := D' + 3) hp (by omega) (fun i hi hin => am_back (v157_18 hp ?_)) (fun hb => am_thru rfl ?_)
    · subst hs1 hi
      rw [qPc_t h8 (Nat.le_refl _) hin h24] at kk
      refine sc_gk hp hr hF hG hs hQ (by omega) (fun I' J' a1 a2 a3 a4 => am_back (v157_22 hp ?_))
      obtain ⟨b1, b2, b3, b4⟩ := row138 a1.2.1 h8 hin
      rw [b1, b3]
      refine ⟨b2, ?_⟩
      have := kk I' J' a1.q a2 a3
      rw [show aEn w T s i = I' 138 (25 * s + i) from bsV_eq b4] at this
      exact this
    · rw [qPc_f (fun ⟨s, i, j, h1, h2, h3, h4, h5, h6⟩ => hb ⟨i, h2, by omega⟩)] at kk
      exact kk
  · rw [qPc_f (fun ⟨s, i, j, h1, h2, h3, h4, h5, h6⟩ => hb ⟨s, h1, by omega⟩)] at kk
    exact kk
end ANC
