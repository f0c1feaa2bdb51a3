/-! A law's entries: sound, and what they come to -/
def lwDp (L : LW) : Nat → Nat
  | 0 => 0
  | i + 1 => if (L.2 i).1 ≤ 1 then lwDp L i + 1 else lwDp L i - 1
/-- the entries can be worked off, and leave t values -/
def lwWf (L : LW) (t : Nat) : Prop := (∀ i, i < L.1 → (L.2 i).1 ≤ 8 ∧ ((L.2 i).1 = 1 → (L.2 i).2 ≤ 5) ∧ (2 ≤ (L.2 i).1 → 2 ≤ lwDp L i)) ∧ lwDp L L.1 = t
theorem lwDp_add {L : LW} {k v : Nat} : ∀ i, i ≤ L.1 → lwDp (lwAdd L k v) i = lwDp L i
  | 0, _ => rfl
  | i + 1, h => by
    have e : (lwAdd L k v).2 i = L.2 i := if_neg (by omega)
    unfold lwDp
    rw [e, lwDp_add i (by omega)]
theorem lwWf.add {L : LW} {t k v : Nat} (h : lwWf L t) (hk : k ≤ 8) (h1 : k = 1 → v ≤ 5) (h2 : 2 ≤ k → 2 ≤ t) : lwWf (lwAdd L k v) (if k ≤ 1 then t + 1 else t - 1) := by
  have eL : (lwAdd L k v).2 L.1 = (k, v) := if_pos rfl
  refine ⟨fun i hi => ?_, ?_⟩
  · have hi' : i < L.1 + 1 := hi
    by_cases c : i = L.1
    · subst c
      rw [eL]
      exact ⟨hk, h1, fun z => by rw [lwDp_add _ (Nat.le_refl _), h.2]; exact h2 z⟩
    · have e : (lwAdd L k v).2 i = L.2 i := if_neg c
      rw [e, lwDp_add _ (by omega)]
      exact h.1 i (by omega)
  · show lwDp (lwAdd L k v) (L.1 + 1) = _
    unfold lwDp
    rw [eL, lwDp_add _ (Nat.le_refl _), h.2]
theorem opS_le {x : Int32} : opS x = 0 ∨ (2 ≤ opS x ∧ opS x ≤ 8) := by unfold opS; split; omega; split <;> omega
theorem opP_le {x : Int32} : opP x = 0 ∨ (2 ≤ opP x ∧ opP x ≤ 8) := by unfold opP; split; omega; split; omega; split <;> omega
theorem lwLoop_wf {b : Nat → Int32} {n : Nat} {u : LW → Nat → (Nat × Nat) ⊕ (LW × Nat)} {op : Int32 → Nat} (hop : ∀ x, op x = 0 ∨ (2 ≤ op x ∧ op x ≤ 8)) (hu : ∀ L a z t, lwWf L t → u L a = .inr z → lwWf z.1 (t + 1)) {t : Nat} : ∀ (G : Nat) (L : LW) (a : Nat) (z : LW × Nat), lwWf L (t + 1) → lwLoop b n u op G L a = .inr z → lwWf z.1 (t + 1)
  | 0, L, a, z, _, h => by cases h
  | G + 1, L, a, z, hL, h => by
    unfold lwLoop at h
    split at h
    · cases h; exact hL
    · rename_i c
      have ho : 2 ≤ op (hz b n (rsk b n a)) ∧ op (hz b n (rsk b n a)) ≤ 8 := by
        rcases hop (hz b n (rsk b n a)) with h | h
        · exact absurd h c
        · exact h
      cases hm : u L (rsk b n a + 1) with
      | inl e => rw [hm] at h; cases h
      | inr y =>
        rw [hm] at h
        have h1 := hu _ _ _ _ hL hm
        have h2 := h1.add (k := op (hz b n (rsk b n a))) (v := 0) ho.2 (fun e => by omega) (fun _ => by omega)
        rw [if_neg (by omega)] at h2
        exact lwLoop_wf hop hu G _ y.2 z h2 h
theorem lwPair_wf {b : Nat → Int32} {n : Nat} {s : LW → Nat → (Nat × Nat) ⊕ (LW × Nat)} {k : Nat} {L : LW} {a t : Nat} {z : LW × Nat} (hk : k = 6 ∨ k = 7) (hu : ∀ L a z t, lwWf L t → s L a = .inr z → lwWf z.1 (t + 1)) (hL : lwWf L t) (h : lwPair b n s k L a = .inr z) : lwWf z.1 (t + 1) := by
  unfold lwPair at h
  cases h1 : mTake b n 91 a with
  | inl e => rw [h1] at h; cases h
  | inr e1 =>
    rw [h1] at h
    dsimp only [rb] at h
    cases h2 : s L e1 with
    | inl e => rw [h2] at h; cases h
    | inr z1 =>
      rw [h2] at h
      dsimp only at h
      cases h3 : mTake b n 44 z1.2 with
      | inl e => rw [h3] at h; cases h
      | inr e2 =>
        rw [h3] at h
        dsimp only at h
        cases h4 : s z1.1 e2 with
        | inl e => rw [h4] at h; cases h
        | inr z2 =>
          rw [h4] at h
          dsimp only at h
          cases h5 : mTake b n 93 z2.2 with
          | inl e => rw [h5] at h; cases h
          | inr e3 =>
            rw [h5] at h
            cases h
            have g := (hu _ _ _ _ (hu _ _ _ _ hL h2) h4).add (k := k) (v := 0) (by omega) (fun e => by omega) (fun _ => by omega)
            rw [if_neg (by omega)] at g
            exact g
theorem mLw_wf {b : Nat → Int32} {n : Nat} : ∀ (F o m : Nat) (L : LW) (a : Nat) (z : LW × Nat) (t : Nat), lwWf L t → mLw b n F o m L a = .inr z → lwWf z.1 (t + 1)
  | 0, o, m, L, a, z, t, _, h => by cases h
  | F + 1, o, 0, L, a, z, t, hL, h => by
    unfold mLw at h
    cases hm : mLw b n F o 1 L a with
    | inl e => rw [hm] at h; cases h
    | inr y =>
      rw [hm] at h
      exact lwLoop_wf (fun _ => opS_le) (fun L a z t => mLw_wf F o 1 L a z t) _ _ _ _ (mLw_wf F o 1 L a y t hL hm) h
  | F + 1, o, 1, L, a, z, t, hL, h => by
    unfold mLw at h
    cases hm : mLw b n F o 2 L a with
    | inl e => rw [hm] at h; cases h
    | inr y =>
      rw [hm] at h
      exact lwLoop_wf (fun _ => opP_le) (fun L a z t => mLw_wf F o 2 L a z t) _ _ _ _ (mLw_wf F o 2 L a y t hL hm) h
  | F + 1, o, m + 2, L, a, z, t, hL, h => by
    unfold mLw at h
    split at h
    · cases hm : mNum b n 1000 a with
      | inl e => rw [hm] at h; cases h
      | inr y =>
        rw [hm] at h
        cases h
        exact hL.add (k := 0) (v := y.1) (by omega) (fun e => by omega) (fun e => by omega)
    · split at h
      · split at h
        · cases h
        · cases hm : mLw b n F (o + 1) 0 L (rsk b n a + 1) with
          | inl e => rw [hm] at h; cases h
          | inr y =>
            rw [hm] at h
            dsimp only [rb] at h
            cases h5 : mTake b n 41 y.2 with
            | inl e => rw [h5] at h; cases h
            | inr e3 =>
              rw [h5] at h
              cases h
              exact mLw_wf F (o + 1) 0 L _ y t hL hm
      · split at h
        · split at h
          · cases h
          · exact lwPair_wf (Or.inl rfl) (fun L a z t => mLw_wf F (o + 1) 0 L a z t) hL h
        · split at h
          · split at h
            · cases h
            · exact lwPair_wf (Or.inr rfl) (fun L a z t => mLw_wf F (o + 1) 0 L a z t) hL h
          · split at h
            · cases h
            · rename_i c
              cases h
              have := (fcN_lt c).2
              exact hL.add (k := 1) (v := fcN b (rsk b n a) (mNE b n a) - 1) (by omega) (fun _ => by omega) (fun e => by omega)
theorem mLaw_wf {b : Nat → Int32} {n : Nat} {L : LW} (h : mLaw b n = .inr L) : lwWf L 1 ∧ L.1 ≤ n := by
  unfold mLaw at h
  cases hm : mLw b n (3 * n + 3) 0 0 (0, fun _ => (0, 0)) 0 with
  | inl e => rw [hm] at h; cases h
  | inr z =>
    rw [hm] at h
    dsimp only [rb] at h
    split at h
    · cases h
      obtain ⟨k1, k2, k3⟩ := mLw_ok _ 0 0 _ 0 z (Nat.zero_le _) hm
      have k4 : z.1.1 + 0 ≤ 0 + z.2 := k3
      exact ⟨mLw_wf _ _ _ _ _ z 0 ⟨fun i hi => absurd hi (by show ¬ i < 0; omega), rfl⟩ hm, by omega⟩
    · cases h
/-- two values, worked together -/
def lwBin (k : Nat) (x y : Int32) : Int32 := if k = 2 then x + y else if k = 3 then x - y else if k = 4 then x * y else if k = 5 then (if y = 0 then 0 else x / y) else if k = 8 then (if y = 0 then 0 else x - x / y * y) else if k = 6 then (if y ≤ x then y else x) else (if y ≤ x then x else y)
/-- the values that stand, i entries worked off -/
def lwSt (L : LW) (f : Nat → Int32) : Nat → Nat → Int32
  | 0 => fun _ => 0
  | i + 1 => fun j => if (L.2 i).1 = 0 then (if j = lwDp L i then ni (L.2 i).2 else lwSt L f i j) else if (L.2 i).1 = 1 then (if j = lwDp L i then f (L.2 i).2 else lwSt L f i j) else (if j = lwDp L i - 2 then lwBin (L.2 i).1 (lwSt L f i (lwDp L i - 2)) (lwSt L f i (lwDp L i - 1)) else lwSt L f i j)
def lwVal (L : LW) (f : Nat → Int32) : Int32 := lwSt L f L.1 0
theorem lwDp_le (L : LW) : ∀ i, lwDp L i ≤ i
  | 0 => Nat.le_refl _
  | i + 1 => by
    have := lwDp_le L i
    unfold lwDp
    split <;> omega
section LWX
variable {d : Nat} {P : am_O → Prop} {J : am_J} {Pf : am_R}
/-- the reference works a law off -/
theorem sr_value (hp : am_PF Pf) {I : am_I} {L : LW} {f : Nat → Int32} (hL : lwWf L 1) (h150 : L.1 ≤ 150) (hv : ∀ i, i < L.1 → (L.2 i).2 < 10000) (h29 : I 163 29 = ni L.1) (hE : ∀ i, i < L.1 → I 174 i = ni (L.2 i).1 ∧ I 175 i = ni (L.2 i).2) (hf : ∀ i, i ≤ 5 → I 177 i = f i)
    (kk : ∀ I', (∀ o k, o ≠ 176 → I' o k = I o k) → P (.inl (some (.int (lwVal L f))), (am_SH, I', J, Pf), 0, 0)) : am_mth (d + 3) 240 [.ref 163] (am_SH, I, J, Pf) P := by
  have LP : ∀ (m i : Nat) (I1 : am_I) (l3 : Option Value), L.1 - i = m → i ≤ L.1 → (∀ o k, o ≠ 176 → I1 o k = I o k) → (∀ j, j < lwDp L i → I1 176 j = lwSt L f i j) → am_go none (d + 2) 240 (4, [some (.ref 163), some (.int (ni (lwDp L i))), some (.int (ni i)), l3], [], (am_SH, I1, J, Pf), 0, 0) P := by
    intro m
    induction m with
    | zero =>
      intro i I1 l3 hm hi hfr hs
      have : i = L.1 := by omega
      subst this
      refine v240_4 hp ?_
      rw [hfr _ _ (by omega), h29, if_pos ((ni_le (by omega) (by omega)).mpr (by omega))]
      have e0 : I1 176 0 = lwVal L f := hs 0 (by rw [hL.2]; omega)
      rw [e0]
      exact kk I1 hfr
    | succ m ih =>
      intro i I1 l3 hm hi hfr hs
      have hi' : i < L.1 := by omega
      obtain ⟨w1, w2, w3⟩ := hL.1 i hi'
      have dle := lwDp_le L i
      have v9 := hv i hi'
      obtain ⟨E1, E2⟩ := hE i hi'
      refine v240_4 hp ?_
      rw [hfr _ _ (by omega), h29, if_neg (fun z => absurd ((ni_le (by omega) (by omega)).mp z) (by omega)), show (ni i).toNatClampNeg = i from ni_nat (by omega), hfr 174 i (by omega), hfr 175 i (by omega), E1, E2, ni_p1 i]
      refine ⟨ni_in (by omega) (by omega), ?_⟩
      have ed : lwDp L (i + 1) = if (L.2 i).1 ≤ 1 then lwDp L i + 1 else lwDp L i - 1 := rfl
      by_cases c1 : 1 < (L.2 i).1
      · rw [if_pos ((glt 1 (by omega) (by omega)).mpr c1)]
        have d2 := w3 (by omega)
        have e1 : ni (lwDp L i) + -1 = ni (lwDp L i - 1) := by rw [← Int32.sub_eq_add_neg]; exact ni_sub (a := lwDp L i) (b := 1) (by omega)
        have e2 : ni (lwDp L i - 1) - 1 = ni (lwDp L i - 2) := by rw [show lwDp L i - 2 = lwDp L i - 1 - 1 by omega]; exact ni_sub (a := lwDp L i - 1) (b := 1) (by omega)
        rw [e1, e2, show (ni (lwDp L i - 2)).toNatClampNeg = lwDp L i - 2 from ni_nat (by omega), show (ni (lwDp L i - 1)).toNatClampNeg = lwDp L i - 1 from ni_nat (by omega), hs _ (by omega), hs _ (by omega)]
        refine ⟨ni_in (by omega) (by omega), ni_in (by omega) (by omega), ?_⟩
        have b2' : am_in (ni (lwDp L i - 2)) 150 = true := ni_in (by omega) (by omega)
        have eD : lwDp L (i + 1) = lwDp L i - 1 := by rw [ed, if_neg (by omega)]
        have fin : ∀ (v : Int32) (l3 : Option Value), v = lwBin (L.2 i).1 (lwSt L f i (lwDp L i - 2)) (lwSt L f i (lwDp L i - 1)) → am_go none (d + 2) 240 (4, [some (.ref 163), some (.int (ni (lwDp L i - 1))), some (.int (ni (i + 1))), l3], [], (am_SH, am_u I1 176 (lwDp L i - 2) v, J, Pf), 0, 0) P := by
          intro v l3 hv
          rw [← eD]
          refine ih (i + 1) _ l3 (by omega) (by omega) (fun o k e => (am_u_nq (by omega)).trans (hfr o k e)) (fun j hj => ?_)
          show _ = (if (L.2 i).1 = 0 then _ else if (L.2 i).1 = 1 then _ else _)
          rw [if_neg (by omega), if_neg (by omega)]
          by_cases c : j = lwDp L i - 2
          · subst c; rw [am_u_same, if_pos rfl]; exact hv
          · rw [am_u_nq (by omega), if_neg c]; exact hs j (by omega)
        have lk : ∀ k : Nat, k < 100 → ((ni (L.2 i).1 = @OfNat.ofNat Int32 k _) ↔ (L.2 i).1 = k) := fun k hk => leq k (by omega) (by omega)
        unfold lwBin at fin
        by_cases k2 : (L.2 i).1 = 2
        · rw [if_pos ((lk 2 (by omega)).mpr k2)]
          exact ⟨b2', fin _ _ (by rw [if_pos k2])⟩
        rw [if_neg (fun z => k2 ((lk 2 (by omega)).mp z))]
        by_cases k3 : (L.2 i).1 = 3
        · rw [if_pos ((lk 3 (by omega)).mpr k3)]
          exact ⟨b2', fin _ _ (by rw [if_neg k2, if_pos k3])⟩
        rw [if_neg (fun z => k3 ((lk 3 (by omega)).mp z))]
        by_cases k4 : (L.2 i).1 = 4
        · rw [if_pos ((lk 4 (by omega)).mpr k4)]
          exact ⟨b2', fin _ _ (by rw [if_neg k2, if_neg k3, if_pos k4])⟩
        rw [if_neg (fun z => k4 ((lk 4 (by omega)).mp z))]
        by_cases k5 : (L.2 i).1 = 5
        · rw [if_pos ((lk 5 (by omega)).mpr k5)]
          by_cases y0 : lwSt L f i (lwDp L i - 1) = 0
          · rw [if_pos y0]
            exact ⟨b2', fin _ _ (by rw [if_neg k2, if_neg k3, if_neg k4, if_pos k5, if_pos y0])⟩
          · rw [if_neg y0]
            exact ⟨y0, b2', fin _ _ (by rw [if_neg k2, if_neg k3, if_neg k4, if_pos k5, if_neg y0])⟩
        rw [if_neg (fun z => k5 ((lk 5 (by omega)).mp z))]
        by_cases k8 : (L.2 i).1 = 8
        · rw [if_pos ((lk 8 (by omega)).mpr k8)]
          by_cases y0 : lwSt L f i (lwDp L i - 1) = 0
          · rw [if_pos y0]
            exact ⟨b2', fin _ _ (by rw [if_neg k2, if_neg k3, if_neg k4, if_neg k5, if_pos k8, if_pos y0])⟩
          · rw [if_neg y0]
            exact ⟨y0, b2', fin _ _ (by rw [if_neg k2, if_neg k3, if_neg k4, if_neg k5, if_pos k8, if_neg y0])⟩
        rw [if_neg (fun z => k8 ((lk 8 (by omega)).mp z))]
        by_cases yx : lwSt L f i (lwDp L i - 1) ≤ lwSt L f i (lwDp L i - 2)
        · rw [if_pos yx]
          by_cases k6 : (L.2 i).1 = 6
          · rw [if_pos ((lk 6 (by omega)).mpr k6)]
            exact ⟨b2', fin _ _ (by rw [if_neg k2, if_neg k3, if_neg k4, if_neg k5, if_neg k8, if_pos k6, if_pos yx])⟩
          · rw [if_neg (fun z => k6 ((lk 6 (by omega)).mp z))]
            exact ⟨b2', fin _ _ (by rw [if_neg k2, if_neg k3, if_neg k4, if_neg k5, if_neg k8, if_neg k6, if_pos yx])⟩
        · rw [if_neg yx]
          by_cases k6 : (L.2 i).1 = 6
          · rw [if_pos ((lk 6 (by omega)).mpr k6)]
            exact ⟨b2', fin _ _ (by rw [if_neg k2, if_neg k3, if_neg k4, if_neg k5, if_neg k8, if_pos k6, if_neg yx])⟩
          · rw [if_neg (fun z => k6 ((lk 6 (by omega)).mp z))]
            exact ⟨b2', fin _ _ (by rw [if_neg k2, if_neg k3, if_neg k4, if_neg k5, if_neg k8, if_neg k6, if_neg yx])⟩
      rw [if_neg (fun z => c1 ((glt 1 (by omega) (by omega)).mp z)), show (ni (lwDp L i)).toNatClampNeg = lwDp L i from ni_nat (by omega), ni_p1]
      have eD : lwDp L (i + 1) = lwDp L i + 1 := by rw [ed, if_pos (by omega)]
      have fin : ∀ (v : Int32) (l3 : Option Value), v = (if (L.2 i).1 = 0 then ni (L.2 i).2 else f (L.2 i).2) → am_go none (d + 2) 240 (4, [some (.ref 163), some (.int (ni (lwDp L i + 1))), some (.int (ni (i + 1))), l3], [], (am_SH, am_u I1 176 (lwDp L i) v, J, Pf), 0, 0) P := by
        intro v l3 hv
        rw [← eD]
        refine ih (i + 1) _ l3 (by omega) (by omega) (fun o k e => (am_u_nq (by omega)).trans (hfr o k e)) (fun j hj => ?_)
        show _ = (if (L.2 i).1 = 0 then _ else if (L.2 i).1 = 1 then _ else _)
        by_cases c : j = lwDp L i
        · subst c
          rw [am_u_same, hv]
          by_cases k0 : (L.2 i).1 = 0
          · rw [if_pos k0, if_pos k0, if_pos rfl]
          · rw [if_neg k0, if_neg k0, if_pos (by omega), if_pos rfl]
        · rw [am_u_nq (by omega), hs j (by omega)]
          by_cases k0 : (L.2 i).1 = 0
          · rw [if_pos k0, if_neg c]
          · rw [if_neg k0, if_pos (by omega), if_neg c]
      by_cases k0 : (L.2 i).1 = 0
      · rw [if_pos (show ni (L.2 i).1 = 0 by rw [k0]; rfl)]
        exact ⟨ni_in (by omega) (by omega), ni_in (by omega) (by omega), fin _ _ (by rw [if_pos k0])⟩
      · have k1 : (L.2 i).1 = 1 := by omega
        have v5 := w2 k1
        rw [if_neg (show ¬ ni (L.2 i).1 = 0 by rw [k1]; decide), show (ni (L.2 i).2).toNatClampNeg = (L.2 i).2 from ni_nat (by omega), hfr 177 _ (by omega), hf _ v5]
        exact ⟨ni_in (by omega) (by omega), ni_in (by omega) (by omega), ni_in (by omega) (by omega), fin _ _ (by rw [if_neg k0])⟩
  refine am_mth_of rfl rfl (v240_0 hp ?_)
  rw [show (0 : Int32) = ni 0 from rfl]
  exact LP L.1 0 I _ rfl (Nat.zero_le _) (fun _ _ _ => rfl) (fun j hj => absurd hj (by show ¬ j < 0; omega))
end LWX
