/-! WORK: its text, the model -/
/-- what a name tells: 1 type, 2 cut, 3 swap, 4 again, 0 none of these -/
def stN (b : Nat → Int32) (q e : Nat) : Nat := if nmB b q e (am_sb 15) = true then 1 else if nmB b q e (am_sb 16) = true then 2 else if nmB b q e (am_sb 17) = true then 3 else if nmB b q e (am_sb 18) = true then 4 else 0
/-- a step behind its name -/
def mSe (b : Nat → Int32) (n k e : Nat) : (Nat × Nat) ⊕ (SE × Nat) := rb (mNum b n 25 e) (fun z => if k = 1 then rb (mShort b n z.2) (fun y => .inr ((1, z.1, y.1.length, y.1), y.2.2 + 1)) else rb (mNum b n 25 z.2) (fun y => .inr ((k, z.1, y.1, []), y.2)))
/-- steps, each with its sign behind it -/
def mStL {X : Type} (b : Nat → Int32) (n : Nat) (u : Nat → (Nat × Nat) ⊕ (X × Nat)) : Nat → Nat → (Nat × Nat) ⊕ (List X × Nat)
  | 0, _ => .inl (0, 0)
  | G + 1, a => if rsk b n a < n ∧ b (rsk b n a) ≠ 93 then rb (u a) (fun z => rb (mTake b n 59 z.2) (fun e => rb (mStL b n u G e) (fun y => .inr (z.1 :: y.1, y.2)))) else .inr ([], rsk b n a)
def mSt (b : Nat → Int32) (n : Nat) : (d : Nat) → Nat → (Nat × Nat) ⊕ (ST d × Nat)
  | 0, a => if stN b (rsk b n a) (mNE b n a) = 0 then .inl (1, rsk b n a) else if stN b (rsk b n a) (mNE b n a) = 4 then .inl (3, rsk b n a) else rb (mSe b n (stN b (rsk b n a) (mNE b n a)) (mNE b n a)) (fun z => .inr (sI 0 z.1, z.2))
  | d + 1, a => if stN b (rsk b n a) (mNE b n a) = 0 then .inl (1, rsk b n a) else if stN b (rsk b n a) (mNE b n a) = 4 then rb (mNum b n 41 (mNE b n a)) (fun z => rb (mTake b n 91 z.2) (fun p => rb (mStL b n (mSt b n d) (n - p + 1) p) (fun y => rb (mTake b n 93 y.2) (fun f => .inr (sA d z.1 y.1, f))))) else rb (mSe b n (stN b (rsk b n a) (mNE b n a)) (mNE b n a)) (fun z => .inr (sI (d + 1) z.1, z.2))
/-- the whole text: a fault (kind, place, how many steps ahead of it), or the steps -/
def mOut (b : Nat → Int32) (n : Nat) : Nat → Nat → Nat → (Nat × Nat × Nat) ⊕ List (ST 6)
  | 0, _, _ => .inl (0, 0, 0)
  | G + 1, a, c => if rsk b n a < n ∧ b (rsk b n a) ≠ 93 then (match rb (mSt b n 6 a) (fun z => rb (mTake b n 59 z.2) (fun e => .inr (z.1, e))) with
    | .inl f => .inl (f.1, f.2, c)
    | .inr z => match mOut b n G z.2 (c + 1) with
      | .inl f => .inl f
      | .inr L => .inr (z.1 :: L)) else if rsk b n a < n then .inl (1, rsk b n a, c) else .inr []
def mWk (b : Nat → Int32) (n : Nat) : (Nat × Nat × Nat) ⊕ List (ST 6) := mOut b n (n + 1) 0 0
theorem stN_4 {b : Nat → Int32} {q e : Nat} : stN b q e ≤ 4 := by unfold stN; split <;> first | omega | (split <;> first | omega | (split <;> first | omega | (split <;> omega)))
theorem stN_len {b : Nat → Int32} {q e : Nat} (h : stN b q e ≠ 0) : q + 3 ≤ e ∧ (stN b q e = 4 → q + 5 ≤ e) := by
  have k15 : (am_sb 15).length = 4 := by decide +kernel
  have k16 : (am_sb 16).length = 3 := by decide +kernel
  have k17 : (am_sb 17).length = 4 := by decide +kernel
  have k18 : (am_sb 18).length = 5 := by decide +kernel
  by_cases c1 : nmB b q e (am_sb 15) = true
  · have := nmB_at c1 (by omega)
    have e1 : stN b q e = 1 := by unfold stN; rw [if_pos c1]
    exact ⟨by omega, fun z => by omega⟩
  by_cases c2 : nmB b q e (am_sb 16) = true
  · have := nmB_at c2 (by omega)
    have e1 : stN b q e = 2 := by unfold stN; rw [if_neg c1, if_pos c2]
    exact ⟨by omega, fun z => by omega⟩
  by_cases c3 : nmB b q e (am_sb 17) = true
  · have := nmB_at c3 (by omega)
    have e1 : stN b q e = 3 := by unfold stN; rw [if_neg c1, if_neg c2, if_pos c3]
    exact ⟨by omega, fun z => by omega⟩
  by_cases c4 : nmB b q e (am_sb 18) = true
  · have := nmB_at c4 (by omega)
    exact ⟨by omega, fun z => by omega⟩
  exact absurd (by unfold stN; rw [if_neg c1, if_neg c2, if_neg c3, if_neg c4]) h
theorem mNum_ge {b : Nat → Int32} {n lim a : Nat} {z : Nat × Nat} (ha : a ≤ n) (h : mNum b n lim a = .inr z) : a ≤ z.2 ∧ z.2 ≤ n ∧ z.1 < lim := by
  unfold mNum at h
  have h1 := rsk_le (b := b) ha
  split at h
  · split at h
    · rename_i c
      cases h
      have := dgF_le b (n - rsk b n a) (rsk b n a) 0
      exact ⟨by omega, by omega, c⟩
    · cases h
  · cases h
theorem sgOk_isSg {b : Nat → Int32} {n a : Nat} {w : Int32} (h : sgOk b n w a = true) : isSg (hv b n (sgA b n a)) = true := by
  unfold sgOk at h
  unfold sgA
  by_cases c : hv b n a = 92
  · rw [if_pos c] at h ⊢; exact h
  · rw [if_neg c] at h ⊢
    rw [Bool.and_eq_true] at h
    exact h.1
theorem wdL_sgm {b : Nat → Int32} {n : Nat} : ∀ (f a : Nat), ∀ x, x ∈ (wdL b n f a).1 → isSg x = true
  | 0, _, x, h => by cases h
  | f + 1, a, x, h => by
    unfold wdL at h
    by_cases c : a < n ∧ b a ≠ 39
    · rw [if_pos c] at h
      by_cases c2 : sgOk b n 1 a = true
      · rw [if_pos c2] at h
        rcases List.mem_cons.mp h with e | e
        · rw [e]; exact sgOk_isSg c2
        · exact wdL_sgm f _ x e
      · rw [if_neg c2] at h; cases h
    · rw [if_neg c] at h; cases h
theorem mShort_ok {b : Nat → Int32} {n a : Nat} {z : List Int32 × Nat × Nat} (ha : a ≤ n) (h : mShort b n a = .inr z) : a ≤ z.2.2 ∧ z.2.2 < n ∧ 1 ≤ z.1.length ∧ z.1.length ≤ 8 ∧ ∀ x, x ∈ z.1 → isSg x = true := by
  unfold mShort at h
  cases hm : mWord b n a with
  | inl e => rw [hm] at h; cases h
  | inr y =>
    rw [hm] at h
    dsimp only [rb] at h
    split at h
    · rename_i c8
      cases h
      unfold mWord at hm
      cases ht : mTake b n 39 a with
      | inl e => rw [ht] at hm; cases hm
      | inr q =>
        rw [ht] at hm
        dsimp only [rb] at hm
        have q1 := mTake_lt ht
        have q2 := mTake_le (by decide) ht
        split at hm
        · rename_i c
          cases hm
          have hge : q ≤ (wdL b n (n - q) q).2.1 := by
            have key : ∀ f a, a ≤ (wdL b n f a).2.1 := by
              intro f
              induction f with
              | zero => intro a; exact Nat.le_refl _
              | succ f ih =>
                intro a
                unfold wdL
                have hs : a ≤ sgA b n a := by unfold sgA; split <;> omega
                split
                · split
                  · have := ih (sgA b n a + 1)
                    show a ≤ (wdL b n f (sgA b n a + 1)).2.1
                    omega
                  · exact hs
                · exact Nat.le_refl _
            exact key _ _
          refine ⟨by show a ≤ (wdL b n (n - q) q).2.1; omega, c.2.1, ?_, c8, wdL_sgm _ _⟩
          show 1 ≤ (wdL b n (n - q) q).1.length
          have := List.length_pos_iff.mpr c.2.2
          omega
        · cases hm
    · cases h
theorem mSe_ok {b : Nat → Int32} {n k e : Nat} {z : SE × Nat} (hk : 1 ≤ k ∧ k ≤ 3) (he : e ≤ n) (h : mSe b n k e = .inr z) : seOK z.1 ∧ e ≤ z.2 ∧ z.2 ≤ n := by
  unfold mSe at h
  cases h1 : mNum b n 25 e with
  | inl f => rw [h1] at h; cases h
  | inr y =>
    rw [h1] at h
    dsimp only [rb] at h
    obtain ⟨g1, g2, g3⟩ := mNum_ge he h1
    by_cases c : k = 1
    · rw [if_pos c] at h
      cases h2 : mShort b n y.2 with
      | inl f => rw [h2] at h; cases h
      | inr x =>
        rw [h2] at h
        cases h
        obtain ⟨k1, k2, k3, k4, k5⟩ := mShort_ok g2 h2
        refine ⟨⟨⟨Nat.le_refl _, by show 1 ≤ 3; omega⟩, by show y.1 ≤ 24; omega, by show x.1.length ≤ 24; omega, fun _ => ⟨k3, k4, rfl, fun i hi => ?_⟩⟩, by show e ≤ x.2.2 + 1; omega, by show x.2.2 + 1 ≤ n; omega⟩
        have hi' : i < x.1.length := hi
        show isSg (x.1.getD i 0) = true
        rw [List.getD_eq_getElem?_getD, List.getElem?_eq_getElem hi']
        exact k5 _ (List.getElem_mem hi')
    · rw [if_neg c] at h
      cases h2 : mNum b n 25 y.2 with
      | inl f => rw [h2] at h; cases h
      | inr x =>
        rw [h2] at h
        cases h
        obtain ⟨k1, k2, k3⟩ := mNum_ge g2 h2
        exact ⟨⟨hk, by show y.1 ≤ 24; omega, by show x.1 ≤ 24; omega, fun z => absurd z c⟩, by show e ≤ x.2; omega, k2⟩
theorem mStL_ok {X : Type} {b : Nat → Int32} {n : Nat} {u : Nat → (Nat × Nat) ⊕ (X × Nat)} {sz : X → Nat} {ok : X → Prop} (hu : ∀ a z, a ≤ n → u a = .inr z → ok z.1 ∧ a + 3 * sz z.1 ≤ z.2 ∧ z.2 ≤ n) : ∀ (G a : Nat) (z : List X × Nat), a ≤ n → mStL b n u G a = .inr z → (∀ y, y ∈ z.1 → ok y) ∧ a + 3 * szL sz z.1 ≤ z.2 ∧ z.2 ≤ n
  | 0, a, z, _, h => by cases h
  | G + 1, a, z, ha, h => by
    have hq := rsk_le (b := b) ha
    unfold mStL at h
    split at h
    · cases h1 : u a with
      | inl f => rw [h1] at h; cases h
      | inr y =>
        rw [h1] at h
        dsimp only [rb] at h
        obtain ⟨g1, g2, g3⟩ := hu a y ha h1
        cases h2 : mTake b n 59 y.2 with
        | inl f => rw [h2] at h; cases h
        | inr e =>
          rw [h2] at h
          dsimp only at h
          have k1 := mTake_lt h2
          have k2 := mTake_le (by decide) h2
          cases h3 : mStL b n u G e with
          | inl f => rw [h3] at h; cases h
          | inr x =>
            rw [h3] at h
            cases h
            obtain ⟨m1, m2, m3⟩ := mStL_ok hu G e x k2 h3
            refine ⟨fun w hw => ?_, ?_, m3⟩
            · rcases List.mem_cons.mp hw with e | e
              · rw [e]; exact g1
              · exact m1 w e
            · show a + 3 * (sz y.1 + szL sz x.1) ≤ x.2
              omega
    · cases h
      exact ⟨fun y hy => (by cases hy), by show a + 3 * 0 ≤ rsk b n a; omega, hq.2⟩
theorem mSt_ok {b : Nat → Int32} {n : Nat} : ∀ (d a : Nat) (z : ST d × Nat), a ≤ n → mSt b n d a = .inr z → stOK d z.1 ∧ a + 3 * csz d z.1 ≤ z.2 ∧ z.2 ≤ n
  | 0, a, z, ha, h => by
    have hne := mNE_le (b := b) ha
    have hq := rsk_le (b := b) ha
    have h4 := stN_4 (b := b) (q := rsk b n a) (e := mNE b n a)
    unfold mSt at h
    split at h
    · cases h
    · rename_i c0
      have hl := stN_len c0
      split at h
      · cases h
      · rename_i c4
        cases h1 : mSe b n (stN b (rsk b n a) (mNE b n a)) (mNE b n a) with
        | inl f => rw [h1] at h; cases h
        | inr y =>
          rw [h1] at h
          cases h
          obtain ⟨g1, g2, g3⟩ := mSe_ok (by omega) hne.2 h1
          exact ⟨g1, by show a + 3 * 1 ≤ y.2; omega, g3⟩
  | d + 1, a, z, ha, h => by
    have hne := mNE_le (b := b) ha
    have hq := rsk_le (b := b) ha
    have h4 := stN_4 (b := b) (q := rsk b n a) (e := mNE b n a)
    unfold mSt at h
    split at h
    · cases h
    · rename_i c0
      have hl := stN_len c0
      split at h
      · rename_i c4
        have hl4 := hl.2 c4
        cases h1 : mNum b n 41 (mNE b n a) with
        | inl f => rw [h1] at h; cases h
        | inr y =>
          rw [h1] at h
          dsimp only [rb] at h
          obtain ⟨g1, g2, g3⟩ := mNum_ge hne.2 h1
          cases h2 : mTake b n 91 y.2 with
          | inl f => rw [h2] at h; cases h
          | inr p =>
            rw [h2] at h
            dsimp only at h
            have k1 := mTake_lt h2
            have k2 := mTake_le (by decide) h2
            cases h3 : mStL b n (mSt b n d) (n - p + 1) p with
            | inl f => rw [h3] at h; cases h
            | inr x =>
              rw [h3] at h
              dsimp only at h
              obtain ⟨m1, m2, m3⟩ := mStL_ok (sz := csz d) (ok := stOK d) (fun a z ha hz => mSt_ok d a z ha hz) _ _ _ k2 h3
              cases h5 : mTake b n 93 x.2 with
              | inl f => rw [h5] at h; cases h
              | inr f =>
                rw [h5] at h
                cases h
                have n1 := mTake_lt h5
                have n2 := mTake_le (by decide) h5
                refine ⟨stOK_A.mpr ⟨by omega, m1⟩, ?_, n2⟩
                show a + 3 * csz (d + 1) (sA d y.1 x.1) ≤ f
                rw [csz_A]
                omega
      · rename_i c4
        cases h1 : mSe b n (stN b (rsk b n a) (mNE b n a)) (mNE b n a) with
        | inl f => rw [h1] at h; cases h
        | inr y =>
          rw [h1] at h
          cases h
          obtain ⟨g1, g2, g3⟩ := mSe_ok (by omega) hne.2 h1
          refine ⟨stOK_I.mpr g1, ?_, g3⟩
          show a + 3 * csz (d + 1) (sI (d + 1) y.1) ≤ y.2
          rw [csz_I]
          omega
