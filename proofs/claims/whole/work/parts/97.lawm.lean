/-! A law's text: the model -/
/-- a list of entries (kind, value): how many, and which -/
abbrev LW := Nat × (Nat → Nat × Nat)
def lwAdd (L : LW) (k v : Nat) : LW := (L.1 + 1, fun i => if i = L.1 then (k, v) else L.2 i)
def opS (x : Int32) : Nat := if x = 43 then 2 else if x = 45 then 3 else 0
def opP (x : Int32) : Nat := if x = 42 then 4 else if x = 47 then 5 else if x = 37 then 8 else 0
def fcN (b : Nat → Int32) (q e : Nat) : Nat := if nmB b q e (am_sb 9) = true then 1 else if nmB b q e (am_sb 10) = true then 2 else if nmB b q e (am_sb 11) = true then 3 else if nmB b q e (am_sb 12) = true then 4 else if nmB b q e (am_sb 13) = true then 5 else if nmB b q e (am_sb 14) = true then 6 else 0
def lwLoop (b : Nat → Int32) (n : Nat) (u : LW → Nat → (Nat × Nat) ⊕ (LW × Nat)) (op : Int32 → Nat) : Nat → LW → Nat → (Nat × Nat) ⊕ (LW × Nat)
  | 0, _, _ => .inl (0, 0)
  | G + 1, L, a => if op (hz b n (rsk b n a)) = 0 then .inr (L, rsk b n a) else rb (u L (rsk b n a + 1)) (fun z => lwLoop b n u op G (lwAdd z.1 (op (hz b n (rsk b n a))) 0) z.2)
def lwPair (b : Nat → Int32) (n : Nat) (s : LW → Nat → (Nat × Nat) ⊕ (LW × Nat)) (k : Nat) (L : LW) (a : Nat) : (Nat × Nat) ⊕ (LW × Nat) :=
  rb (mTake b n 91 a) (fun e1 => rb (s L e1) (fun z1 => rb (mTake b n 44 z1.2) (fun e2 => rb (s z1.1 e2) (fun z2 => rb (mTake b n 93 z2.2) (fun e3 => .inr (lwAdd z2.1 k 0, e3))))))
/-- a sum (0), a product (1), a unit (2) at a, o brackets deep -/
def mLw (b : Nat → Int32) (n : Nat) : Nat → Nat → Nat → LW → Nat → (Nat × Nat) ⊕ (LW × Nat)
  | 0, _, _, _, _ => .inl (0, 0)
  | F + 1, o, 0, L, a => rb (mLw b n F o 1 L a) (fun z => lwLoop b n (mLw b n F o 1) opS (n - z.2 + 1) z.1 z.2)
  | F + 1, o, 1, L, a => rb (mLw b n F o 2 L a) (fun z => lwLoop b n (mLw b n F o 2) opP (n - z.2 + 1) z.1 z.2)
  | F + 1, o, _ + 2, L, a =>
    if isDg (hz b n (rsk b n a)) = true then rb (mNum b n 1000 a) (fun z => .inr (lwAdd L 0 z.1, z.2))
    else if hz b n (rsk b n a) = 40 then (if o = 6 then .inl (3, rsk b n a) else rb (mLw b n F (o + 1) 0 L (rsk b n a + 1)) (fun z => rb (mTake b n 41 z.2) (fun e => .inr (z.1, e))))
    else if nmB b (rsk b n a) (mNE b n a) (am_sb 7) = true then (if o = 6 then .inl (3, rsk b n a) else lwPair b n (mLw b n F (o + 1) 0) 6 L (mNE b n a))
    else if nmB b (rsk b n a) (mNE b n a) (am_sb 8) = true then (if o = 6 then .inl (3, rsk b n a) else lwPair b n (mLw b n F (o + 1) 0) 7 L (mNE b n a))
    else if fcN b (rsk b n a) (mNE b n a) = 0 then .inl (1, rsk b n a) else .inr (lwAdd L 1 (fcN b (rsk b n a) (mNE b n a) - 1), mNE b n a)
/-- what a reading keeps: it goes on, and lays down no more entries than it reads bytes -/
def lwOk (n : Nat) (L : LW) (a : Nat) (z : LW × Nat) : Prop := a < z.2 ∧ z.2 ≤ n ∧ z.1.1 + a ≤ L.1 + z.2
theorem opS_ne {x : Int32} (h : opS x ≠ 0) : x ≠ 0 := by rintro rfl; exact h rfl
theorem opP_ne {x : Int32} (h : opP x ≠ 0) : x ≠ 0 := by rintro rfl; exact h rfl
theorem lwLoop_ok {b : Nat → Int32} {n : Nat} {u : LW → Nat → (Nat × Nat) ⊕ (LW × Nat)} {op : Int32 → Nat} (hop : ∀ x, op x ≠ 0 → x ≠ 0) (hu : ∀ L a z, a ≤ n → u L a = .inr z → lwOk n L a z) : ∀ (G : Nat) (L : LW) (a : Nat) (z : LW × Nat), a ≤ n → lwLoop b n u op G L a = .inr z → a ≤ z.2 ∧ z.2 ≤ n ∧ z.1.1 + a ≤ L.1 + z.2
  | 0, L, a, z, _, h => by cases h
  | G + 1, L, a, z, ha, h => by
    have hq := rsk_le (b := b) ha
    unfold lwLoop at h
    split at h
    · cases h; exact ⟨hq.1, hq.2, by show L.1 + a ≤ L.1 + rsk b n a; omega⟩
    · rename_i c
      have hlt := hz_0 (b := b) (n := n) (a := rsk b n a) rfl (hop _ c)
      cases hm : u L (rsk b n a + 1) with
      | inl e => rw [hm] at h; cases h
      | inr y =>
        rw [hm] at h
        obtain ⟨h1, h2, h3⟩ := hu _ _ _ (by omega) hm
        obtain ⟨g1, g2, g3⟩ := lwLoop_ok hop hu G _ y.2 z h2 h
        refine ⟨by omega, g2, ?_⟩
        have : (lwAdd y.1 (op (hz b n (rsk b n a))) 0).1 = y.1.1 + 1 := rfl
        omega
theorem nmB_at {b : Nat → Int32} {q e : Nat} {t : List Int32} (h : nmB b q e t = true) (h1 : 1 ≤ t.length) : e = q + t.length := by
  unfold nmB at h
  rw [Bool.and_eq_true, decide_eq_true_iff] at h
  omega
theorem mNE_le {b : Nat → Int32} {n a : Nat} (ha : a ≤ n) : rsk b n a ≤ mNE b n a ∧ mNE b n a ≤ n := by
  have h1 := rsk_le (b := b) ha
  have h2 := ltF_le b (n - rsk b n a) (rsk b n a)
  unfold mNE
  omega
theorem fcN_lt {b : Nat → Int32} {q e : Nat} (h : fcN b q e ≠ 0) : q < e ∧ fcN b q e ≤ 6 := by
  have two : fcN b q e ≤ 6 := by unfold fcN; split <;> first | omega | (split <;> first | omega | (split <;> first | omega | (split <;> first | omega | (split <;> first | omega | (split <;> omega)))))
  refine ⟨?_, two⟩
  have key : ∀ x, x < 15 → nmB b q e (am_sb x) = true → q < e := fun x hx c => by
    have hl : (List.range 15).all (fun x => decide (1 ≤ (am_sb x).length)) = true := by decide +kernel
    have hl2 := of_decide_eq_true (List.all_eq_true.mp hl x (List.mem_range.mpr hx))
    have := nmB_at c hl2
    omega
  unfold fcN at h
  by_cases c : nmB b q e (am_sb 9) = true
  · exact key 9 (by omega) c
  rw [if_neg c] at h
  by_cases c : nmB b q e (am_sb 10) = true
  · exact key 10 (by omega) c
  rw [if_neg c] at h
  by_cases c : nmB b q e (am_sb 11) = true
  · exact key 11 (by omega) c
  rw [if_neg c] at h
  by_cases c : nmB b q e (am_sb 12) = true
  · exact key 12 (by omega) c
  rw [if_neg c] at h
  by_cases c : nmB b q e (am_sb 13) = true
  · exact key 13 (by omega) c
  rw [if_neg c] at h
  by_cases c : nmB b q e (am_sb 14) = true
  · exact key 14 (by omega) c
  rw [if_neg c] at h
  exact absurd rfl h
theorem mNum_le {b : Nat → Int32} {n lim a : Nat} {z : Nat × Nat} (ha : a ≤ n) (h : mNum b n lim a = .inr z) : z.2 ≤ n := by
  unfold mNum at h
  split at h
  · split at h
    · cases h
      have := dgF_le b (n - rsk b n a) (rsk b n a) 0
      have h1 := rsk_le (b := b) ha
      omega
    · cases h
  · cases h
theorem lwPair_ok {b : Nat → Int32} {n : Nat} {s : LW → Nat → (Nat × Nat) ⊕ (LW × Nat)} {k : Nat} {L : LW} {a : Nat} {z : LW × Nat} (hu : ∀ L a z, a ≤ n → s L a = .inr z → lwOk n L a z) (h : lwPair b n s k L a = .inr z) : lwOk n L a z := by
  unfold lwPair at h
  cases h1 : mTake b n 91 a with
  | inl e => rw [h1] at h; cases h
  | inr e1 =>
    rw [h1] at h
    dsimp only [rb] at h
    have a1 := mTake_lt h1
    have a2 := mTake_le (by decide) h1
    cases h2 : s L e1 with
    | inl e => rw [h2] at h; cases h
    | inr z1 =>
      rw [h2] at h
      dsimp only at h
      obtain ⟨b1, b2, b3⟩ := hu _ _ _ a2 h2
      cases h3 : mTake b n 44 z1.2 with
      | inl e => rw [h3] at h; cases h
      | inr e2 =>
        rw [h3] at h
        dsimp only at h
        have c1 := mTake_lt h3
        have c2 := mTake_le (by decide) h3
        cases h4 : s z1.1 e2 with
        | inl e => rw [h4] at h; cases h
        | inr z2 =>
          rw [h4] at h
          dsimp only at h
          obtain ⟨d1, d2, d3⟩ := hu _ _ _ c2 h4
          cases h5 : mTake b n 93 z2.2 with
          | inl e => rw [h5] at h; cases h
          | inr e3 =>
            rw [h5] at h
            cases h
            have f1 := mTake_lt h5
            have f2 := mTake_le (by decide) h5
            refine ⟨by show a < e3; omega, f2, ?_⟩
            show z2.1.1 + 1 + a ≤ L.1 + e3
            omega
theorem mLw_ok {b : Nat → Int32} {n : Nat} : ∀ (F o m : Nat) (L : LW) (a : Nat) (z : LW × Nat), a ≤ n → mLw b n F o m L a = .inr z → lwOk n L a z
  | 0, o, m, L, a, z, _, h => by cases h
  | F + 1, o, 0, L, a, z, ha, h => by
    unfold mLw at h
    cases hm : mLw b n F o 1 L a with
    | inl e => rw [hm] at h; cases h
    | inr y =>
      rw [hm] at h
      obtain ⟨h1, h2, h3⟩ := mLw_ok F o 1 L a y ha hm
      obtain ⟨g1, g2, g3⟩ := lwLoop_ok (fun _ => opS_ne) (fun L a z => mLw_ok F o 1 L a z) _ _ _ _ h2 h
      exact ⟨by omega, g2, by omega⟩
  | F + 1, o, 1, L, a, z, ha, h => by
    unfold mLw at h
    cases hm : mLw b n F o 2 L a with
    | inl e => rw [hm] at h; cases h
    | inr y =>
      rw [hm] at h
      obtain ⟨h1, h2, h3⟩ := mLw_ok F o 2 L a y ha hm
      obtain ⟨g1, g2, g3⟩ := lwLoop_ok (fun _ => opP_ne) (fun L a z => mLw_ok F o 2 L a z) _ _ _ _ h2 h
      exact ⟨by omega, g2, by omega⟩
  | F + 1, o, m + 2, L, a, z, ha, h => by
    have hq := rsk_le (b := b) ha
    have he := mNE_le (b := b) ha
    have sb7 : (am_sb 7).length = 5 := by decide +kernel
    have sb8 : (am_sb 8).length = 4 := by decide +kernel
    unfold mLw at h
    split at h
    · cases hm : mNum b n 1000 a with
      | inl e => rw [hm] at h; cases h
      | inr y =>
        rw [hm] at h
        cases h
        have h1 := mNum_lt hm
        exact ⟨h1.1, mNum_le ha hm, by show L.1 + 1 + a ≤ L.1 + y.2; omega⟩
    · split at h
      · rename_i c40
        have hlt := hz_0 c40 (by decide)
        split at h
        · cases h
        · cases hm : mLw b n F (o + 1) 0 L (rsk b n a + 1) with
          | inl e => rw [hm] at h; cases h
          | inr y =>
            rw [hm] at h
            dsimp only [rb] at h
            obtain ⟨h1, h2, h3⟩ := mLw_ok F (o + 1) 0 L _ y (by omega) hm
            cases h5 : mTake b n 41 y.2 with
            | inl e => rw [h5] at h; cases h
            | inr e3 =>
              rw [h5] at h
              cases h
              have f1 := mTake_lt h5
              have f2 := mTake_le (by decide) h5
              exact ⟨by show a < e3; omega, f2, by show y.1.1 + a ≤ L.1 + e3; omega⟩
      · split at h
        · rename_i c
          have := nmB_at c (by omega)
          split at h
          · cases h
          · obtain ⟨h1, h2, h3⟩ := lwPair_ok (fun L a z => mLw_ok F (o + 1) 0 L a z) h
            exact ⟨by omega, h2, by omega⟩
        · split at h
          · rename_i c
            have := nmB_at c (by omega)
            split at h
            · cases h
            · obtain ⟨h1, h2, h3⟩ := lwPair_ok (fun L a z => mLw_ok F (o + 1) 0 L a z) h
              exact ⟨by omega, h2, by omega⟩
          · split at h
            · cases h
            · rename_i c
              cases h
              have := (fcN_lt c).1
              exact ⟨by show a < mNE b n a; omega, he.2, by show L.1 + 1 + a ≤ L.1 + mNE b n a; omega⟩
