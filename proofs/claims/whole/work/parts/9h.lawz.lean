/-! A law's numbers are small; a sign put in; the law's worth -/
def lwSm (L : LW) : Prop := ∀ i, i < L.1 → (L.2 i).2 < 1000
theorem lwSm.add {L : LW} {k v : Nat} (h : lwSm L) (hv : v < 1000) : lwSm (lwAdd L k v) := by
  intro i hi
  have hi' : i < L.1 + 1 := hi
  show (if i = L.1 then (k, v) else L.2 i).2 < 1000
  split
  · exact hv
  · exact h i (by omega)
theorem lwLoop_sm {b : Nat → Int32} {n : Nat} {u : LW → Nat → (Nat × Nat) ⊕ (LW × Nat)} {op : Int32 → Nat} (hu : ∀ L a z, lwSm L → u L a = .inr z → lwSm z.1) : ∀ (G : Nat) (L : LW) (a : Nat) (z : LW × Nat), lwSm L → lwLoop b n u op G L a = .inr z → lwSm z.1
  | 0, L, a, z, _, h => by cases h
  | G + 1, L, a, z, hL, h => by
    unfold lwLoop at h
    split at h
    · cases h; exact hL
    · cases hm : u L (rsk b n a + 1) with
      | inl e => rw [hm] at h; cases h
      | inr y =>
        rw [hm] at h
        exact lwLoop_sm hu G _ y.2 z ((hu _ _ _ hL hm).add (by omega)) h
theorem lwPair_sm {b : Nat → Int32} {n : Nat} {s : LW → Nat → (Nat × Nat) ⊕ (LW × Nat)} {k : Nat} {L : LW} {a : Nat} {z : LW × Nat} (hu : ∀ L a z, lwSm L → s L a = .inr z → lwSm z.1) (hL : lwSm L) (h : lwPair b n s k L a = .inr z) : lwSm z.1 := by
  unfold lwPair at h
  cases h1 : mTake b n 91 a with
  | inl e => rw [h1] at h; cases h
  | inr e1 =>
    rw [h1] at h
    dsimp only [rb] at h
    cases h2 : s L e1 with
    | inl e => rw [h2] at h; cases h
    | inr z1 =>
      rw [h2] at h
      dsimp only at h
      cases h3 : mTake b n 44 z1.2 with
      | inl e => rw [h3] at h; cases h
      | inr e2 =>
        rw [h3] at h
        dsimp only at h
        cases h4 : s z1.1 e2 with
        | inl e => rw [h4] at h; cases h
        | inr z2 =>
          rw [h4] at h
          dsimp only at h
          cases h5 : mTake b n 93 z2.2 with
          | inl e => rw [h5] at h; cases h
          | inr e3 =>
            rw [h5] at h
            cases h
            exact (hu _ _ _ (hu _ _ _ hL h2) h4).add (by omega)
theorem mLw_sm {b : Nat → Int32} {n : Nat} : ∀ (F o m : Nat) (L : LW) (a : Nat) (z : LW × Nat), lwSm L → mLw b n F o m L a = .inr z → lwSm z.1
  | 0, o, m, L, a, z, _, h => by cases h
  | F + 1, o, 0, L, a, z, hL, h => by
    unfold mLw at h
    cases hm : mLw b n F o 1 L a with
    | inl e => rw [hm] at h; cases h
    | inr y =>
      rw [hm] at h
      exact lwLoop_sm (fun L a z => mLw_sm F o 1 L a z) _ _ _ _ (mLw_sm F o 1 L a y hL hm) h
  | F + 1, o, 1, L, a, z, hL, h => by
    unfold mLw at h
    cases hm : mLw b n F o 2 L a with
    | inl e => rw [hm] at h; cases h
    | inr y =>
      rw [hm] at h
      exact lwLoop_sm (fun L a z => mLw_sm F o 2 L a z) _ _ _ _ (mLw_sm F o 2 L a y hL hm) h
  | F + 1, o, m + 2, L, a, z, hL, h => by
    unfold mLw at h
    split at h
    · cases hm : mNum b n 1000 a with
      | inl e => rw [hm] at h; cases h
      | inr y =>
        rw [hm] at h
        cases h
        exact hL.add (mNum_lt hm).2
    · split at h
      · split at h
        · cases h
        · cases hm : mLw b n F (o + 1) 0 L (rsk b n a + 1) with
          | inl e => rw [hm] at h; cases h
          | inr y =>
            rw [hm] at h
            dsimp only [rb] at h
            cases h5 : mTake b n 41 y.2 with
            | inl e => rw [h5] at h; cases h
            | inr e3 =>
              rw [h5] at h
              cases h
              exact mLw_sm F (o + 1) 0 L _ y hL hm
      · split at h
        · split at h
          · cases h
          · exact lwPair_sm (fun L a z => mLw_sm F (o + 1) 0 L a z) hL h
        · split at h
          · split at h
            · cases h
            · exact lwPair_sm (fun L a z => mLw_sm F (o + 1) 0 L a z) hL h
          · split at h
            · cases h
            · rename_i c
              cases h
              have := (fcN_lt c).2
              exact hL.add (by omega)
theorem mLaw_sm {b : Nat → Int32} {n : Nat} {L : LW} (h : mLaw b n = .inr L) : lwSm L := by
  unfold mLaw at h
  cases hm : mLw b n (3 * n + 3) 0 0 (0, fun _ => (0, 0)) 0 with
  | inl e => rw [hm] at h; cases h
  | inr z =>
    rw [hm] at h
    dsimp only [rb] at h
    split at h
    · cases h
      exact mLw_sm _ _ _ _ _ z (fun i hi => absurd hi (by show ¬ i < 0; omega)) hm
    · cases h
section TXS
variable {d x : Nat} {P : am_O → Prop} {J : am_J} {Pf : am_R} {T : TX}
theorem sc_type1 (hp : am_PF Pf) (hx : am_SH[x]? = some (.inl 9)) {I : am_I} {p : Nat} {v : Int32} (hT : cTx x I T) (hp2 : p < 100)
    (kk : if p ≤ T.1 ∧ T.1 + 1 ≤ 24 then ∀ I', cTx x I' (txIns T p 1 (fun _ => v)) → cTf x I I' → P (.inl (some (.int 1)), (am_SH, I', J, Pf), 0, 0) else P (.inl (some (.int 0)), (am_SH, I, J, Pf), 0, 0)) : am_mth (d + 2) 112 [.ref x, .int (ni p), .int v] (am_SH, I, J, Pf) P := by
  have h24 := hT.2.1
  refine am_mth_of rfl rfl (v112_0 hp hx ?_)
  rw [if_neg (ni_nonneg (by omega)), hT.1]
  by_cases c1 : T.1 < p
  · rw [if_neg (fun z => by omega)] at kk
    rw [if_pos ((ni_lt (by omega) (by omega)).mpr c1)]; exact kk
  rw [if_neg (fun z => c1 ((ni_lt (by omega) (by omega)).mp z)), ni_p1]
  by_cases c2 : ¬ (T.1 + 1 ≤ 24)
  · rw [if_neg (fun z => c2 z.2)] at kk
    rw [if_neg (fun z => c2 ((lle 24 (by omega) (by omega)).mp z))]; exact kk
  replace c2 := Decidable.of_not_not c2
  rw [if_pos ⟨by omega, c2⟩] at kk
  rw [if_pos ((lle 24 (by omega) (by omega)).mpr c2), show (1 : Int32) = ni 1 from rfl]
  refine sc_room (d := d) hp hx hT (by omega) c2 (Nat.le_refl _) (fun I1 a1 a2 a3 a4 => am_back (v112_31 hp hx ?_))
  rw [show (ni p).toNatClampNeg = p from ni_nat (by omega)]
  refine ⟨ni_in (by omega) (by omega), kk _ ⟨by rw [am_u_nq (by omega)]; exact a1, c2, fun i hi => ?_⟩ (fun o j e1 e2 => by rw [am_u_nq (by omega)]; exact a4 o j e1 e2)⟩
  have hi' : i < T.1 + 1 := hi
  show _ = (if i < p then T.2 i else if i < p + 1 then v else T.2 (i - 1))
  by_cases i1 : i < p
  · rw [if_pos i1, am_u_nq (by omega)]; exact a2 i i1
  rw [if_neg i1]
  by_cases i2 : i < p + 1
  · rw [if_pos i2, show i = p by omega, am_u_same]
  · rw [if_neg i2, am_u_nq (by omega)]
    have := a3 (i - 1) (by omega) (by omega)
    rwa [show i - 1 + 1 = i by omega] at this
end TXS
section LWZ
variable {d : Nat} {P : am_O → Prop} {J : am_J} {Pf : am_R}
/-- six facts -/
def six (x0 x1 x2 x3 x4 x5 : Int32) : Nat → Int32 := fun i => if i = 0 then x0 else if i = 1 then x1 else if i = 2 then x2 else if i = 3 then x3 else if i = 4 then x4 else x5
/-- the reference's worth of six facts; no law told: one -/
theorem sr_worth (hp : am_PF Pf) {I : am_I} {x0 x1 x2 x3 x4 x5 : Int32} {L : LW} (hL : L.1 = 0 ∨ (lwWf L 1 ∧ L.1 ≤ 150 ∧ lwSm L)) (h29 : I 163 29 = ni L.1) (hE : ∀ i, i < L.1 → I 174 i = ni (L.2 i).1 ∧ I 175 i = ni (L.2 i).2)
    (kk : ∀ I', (∀ o k, o ≠ 176 → o ≠ 177 → I' o k = I o k) → P (.inl (some (.int (if L.1 = 0 then 1 else lwVal L (six x0 x1 x2 x3 x4 x5)))), (am_SH, I', J, Pf), 0, 0)) : am_mth (d + 4) 242 [.ref 163, .int x0, .int x1, .int x2, .int x3, .int x4, .int x5] (am_SH, I, J, Pf) P := by
  refine am_mth_of rfl rfl (v242_0 hp ?_)
  by_cases c : L.1 = 0
  · rw [h29, if_pos (show ni L.1 = 0 by rw [c]; rfl)]
    have := kk (am_u (am_u (am_u (am_u (am_u (am_u I 177 0 x0) 177 1 x1) 177 2 x2) 177 3 x3) 177 4 x4) 177 5 x5) (fun o k e1 e2 => by rw [am_u_nq (by omega), am_u_nq (by omega), am_u_nq (by omega), am_u_nq (by omega), am_u_nq (by omega), am_u_nq (by omega)])
    rw [if_pos c] at this
    exact this
  · obtain ⟨w1, w2, w3⟩ : lwWf L 1 ∧ L.1 ≤ 150 ∧ lwSm L := hL.resolve_left c
    rw [h29, if_neg (fun z => c ((leq 0 (by omega) (by omega)).mp z))]
    have u : ∀ o k, o ≠ 177 → am_u (am_u (am_u (am_u (am_u (am_u I 177 0 x0) 177 1 x1) 177 2 x2) 177 3 x3) 177 4 x4) 177 5 x5 o k = I o k := fun o k e => by rw [am_u_nq (by omega), am_u_nq (by omega), am_u_nq (by omega), am_u_nq (by omega), am_u_nq (by omega), am_u_nq (by omega)]
    refine sr_value (d := d) (L := L) (f := six x0 x1 x2 x3 x4 x5) hp w1 w2 (fun i hi => by have := w3 i hi; omega) (by rw [u _ _ (by omega)]; exact h29) (fun i hi => by rw [u _ _ (by omega), u _ _ (by omega)]; exact hE i hi) (fun i hi => ?_) (fun I' hf => am_back (v242_60 hp ?_))
    · have : i = 0 ∨ i = 1 ∨ i = 2 ∨ i = 3 ∨ i = 4 ∨ i = 5 := by omega
      rcases this with rfl | rfl | rfl | rfl | rfl | rfl <;> simp [am_u, six]
    · have := kk I' (fun o k e1 e2 => (hf o k e1).trans (u o k e2))
      rw [if_neg c] at this
      exact this
end LWZ
