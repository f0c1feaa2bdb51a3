/-! Rows that are well formed -/
def pOK (w : Nat → Int32) (n0 e : Nat) : Prop := (w e = 0 ∧ ∃ c, c < n0 ∧ w (e + 1) = ni c) ∨ (w e = 1 ∧ ∃ s, s < 8 ∧ w (e + 1) = ni s) ∨ (w e = 2 ∧ ∃ m, 1 ≤ m ∧ m ≤ 8 ∧ w (e + 2) = ni m ∧ ∀ i, i < m → isSg (w (e + 3 + i)) = true)
def prOK (w : Nat → Int32) (n0 p : Nat) : Prop := ∃ s m, s < 8 ∧ m ≤ 4 ∧ w (32 + 3 * p) = ni s ∧ (w (32 + 3 * p + 1) = 0 ∨ w (32 + 3 * p + 1) = 1) ∧ w (32 + 3 * p + 2) = ni m ∧ ∀ k, k < m → pOK w n0 (eP p k)
def quOK (w : Nat → Int32) (q : Nat) : Prop := ∃ s t, s < 8 ∧ t < 8 ∧ w (972 + 5 * q) = ni s ∧ w (972 + 5 * q + 1) = ni t ∧ isSg (w (972 + 5 * q + 2)) = true ∧ isSg (w (972 + 5 * q + 3)) = true ∧ isSg (w (972 + 5 * q + 4)) = true ∧ w (972 + 5 * q + 4) ≠ w (972 + 5 * q + 2) ∧ w (972 + 5 * q + 4) ≠ w (972 + 5 * q + 3)
def noOK (w : Nat → Int32) (n0 j : Nat) : Prop := ∃ s k, s < 8 ∧ k < n0 ∧ w (992 + 2 * j) = ni s ∧ w (992 + 2 * j + 1) = ni k
def drOK (w : Nat → Int32) (d : Nat) : Prop := ∃ s t pl c, s < 8 ∧ t < 8 ∧ s ≠ t ∧ pl ≤ 600 ∧ c ≤ 60 ∧ w (1008 + 4 * d) = ni s ∧ w (1008 + 4 * d + 1) = ni t ∧ w (1008 + 4 * d + 2) = ni pl ∧ w (1008 + 4 * d + 3) = ni c
def laOK (w : Nat → Int32) (n0 : Nat) : Prop := w 5 = -1 ∨ ∃ k, k < n0 ∧ w 5 = ni k
def WG (w : Nat → Int32) : Prop := WC w ∧ (∀ p, p < wN w 1 → prOK w (wN w 0) p) ∧ (∀ q, q < wN w 2 → quOK w q) ∧ (∀ j, j < wN w 3 → noOK w (wN w 0) j) ∧ (∀ d, d < wN w 4 → drOK w d) ∧ laOK w (wN w 0)
theorem pOK.of {w w' : Nat → Int32} {n0 n0' e : Nat} (h : pOK w n0 e) (hn : n0 ≤ n0') (f : ∀ i, i < 11 → w' (e + i) = w (e + i)) : pOK w' n0' e := by
  have f0 : w' e = w e := f 0 (by omega)
  have f1 := f 1 (by omega)
  have f2 := f 2 (by omega)
  rcases h with ⟨h1, c, h2, h3⟩ | ⟨h1, c, h2, h3⟩ | ⟨h1, m, h2, h3, h4, h5⟩
  · exact Or.inl ⟨f0.trans h1, c, by omega, f1.trans h3⟩
  · exact Or.inr (Or.inl ⟨f0.trans h1, c, h2, f1.trans h3⟩)
  · refine Or.inr (Or.inr ⟨f0.trans h1, m, h2, h3, f2.trans h4, fun i hi => ?_⟩)
    have := f (3 + i) (by omega)
    rw [← Nat.add_assoc] at this
    rw [this]
    exact h5 i hi
theorem prOK.of {w w' : Nat → Int32} {n0 n0' p : Nat} (h : prOK w n0 p) (hn : n0 ≤ n0') (f : ∀ i, i < 3 → w' (32 + 3 * p + i) = w (32 + 3 * p + i)) (g : ∀ i, i < 44 → w' (92 + 44 * p + i) = w (92 + 44 * p + i)) : prOK w' n0' p := by
  obtain ⟨s, m, h1, h2, h3, h4, h5, h6⟩ := h
  refine ⟨s, m, h1, h2, (f 0 (by omega)).trans h3, ?_, (f 2 (by omega)).trans h5, fun k hk => (h6 k hk).of hn (fun i hi => ?_)⟩
  · rw [f 1 (by omega)]; exact h4
  · have := g (11 * k + i) (by omega)
    have e : 92 + 44 * p + (11 * k + i) = eP p k + i := by unfold eP; omega
    rw [e] at this
    exact this
theorem quOK.of {w w' : Nat → Int32} {q : Nat} (h : quOK w q) (f : ∀ i, i < 5 → w' (972 + 5 * q + i) = w (972 + 5 * q + i)) : quOK w' q := by
  obtain ⟨s, t, h1, h2, h3, h4, h5⟩ := h
  refine ⟨s, t, h1, h2, (f 0 (by omega)).trans h3, (f 1 (by omega)).trans h4, ?_⟩
  rw [f 2 (by omega), f 3 (by omega), f 4 (by omega)]
  exact h5
theorem noOK.of {w w' : Nat → Int32} {n0 n0' j : Nat} (h : noOK w n0 j) (hn : n0 ≤ n0') (f : ∀ i, i < 2 → w' (992 + 2 * j + i) = w (992 + 2 * j + i)) : noOK w' n0' j := by
  obtain ⟨s, k, h1, h2, h3, h4⟩ := h
  exact ⟨s, k, h1, by omega, (f 0 (by omega)).trans h3, (f 1 (by omega)).trans h4⟩
theorem drOK.of {w w' : Nat → Int32} {d : Nat} (h : drOK w d) (f : ∀ i, i < 4 → w' (1008 + 4 * d + i) = w (1008 + 4 * d + i)) : drOK w' d := by
  obtain ⟨s, t, pl, c, h1, h2, h3, h4, h5, h6, h7, h8, h9⟩ := h
  exact ⟨s, t, pl, c, h1, h2, h3, h4, h5, (f 0 (by omega)).trans h6, (f 1 (by omega)).trans h7, (f 2 (by omega)).trans h8, (f 3 (by omega)).trans h9⟩
section WGS
variable {b : Nat → Int32} {n : Nat}
theorem wdL_sg : ∀ (f a : Nat) (i : Nat), i < (wdL b n f a).1.length → isSg ((wdL b n f a).1.getD i 0) = true
  | 0, a, i, h => absurd h (by simp [wdL])
  | f + 1, a, i, h => by
    unfold wdL at h ⊢
    split at h
    · rename_i c
      split at h
      · rename_i c2
        rw [if_pos c, if_pos c2]
        cases i with
        | zero =>
          obtain ⟨x, e, h1, h2⟩ := sgOk_sg c2
          show isSg (hv b n (sgA b n a)) = true
          rw [e]
          unfold isSg
          exact decide_eq_true ⟨(gle 32 (by omega) (by omega)).mpr h1, (lle 126 (by omega) (by omega)).mpr h2⟩
        | succ i =>
          show isSg ((wdL b n f (sgA b n a + 1)).1.getD i 0) = true
          exact wdL_sg f _ i (by simp only [List.length_cons] at h; omega)
      · exact absurd h (by simp)
    · exact absurd h (by simp)
theorem mWord_sg {a : Nat} {x : List Int32 × Nat × Nat} (h : mWord b n a = .inr x) : (∀ i, i < x.1.length → isSg (x.1.getD i 0) = true) ∧ x.1 ≠ [] := by
  unfold mWord at h
  cases hm : mTake b n 39 a with
  | inl e => rw [hm] at h; cases h
  | inr q =>
    rw [hm] at h
    dsimp only [rb] at h
    split at h
    · rename_i c
      cases h
      exact ⟨fun i hi => wdL_sg _ _ i hi, c.2.2⟩
    · cases h
theorem mShort_sg {a : Nat} {x : List Int32 × Nat × Nat} (h : mShort b n a = .inr x) : (∀ i, i < x.1.length → isSg (x.1.getD i 0) = true) ∧ x.1 ≠ [] ∧ x.1.length ≤ 8 := by
  unfold mShort at h
  cases hm : mWord b n a with
  | inl e => rw [hm] at h; cases h
  | inr y =>
    rw [hm] at h
    dsimp only [rb] at h
    split at h
    · rename_i c
      cases h
      exact ⟨(mWord_sg hm).1, (mWord_sg hm).2, c⟩
    · cases h
theorem mCl_lt {cc a : Nat} {z : Nat × Nat} (h : mCl b n cc a = .inr z) : z.1 < cc ∧ a < z.2 := by
  unfold mCl at h
  cases hm : mTake b n 35 a with
  | inl e => rw [hm] at h; cases h
  | inr q =>
    rw [hm] at h
    have h1 := mTake_lt hm
    have h2 := mNum_lt h
    exact ⟨h2.2, by omega⟩
theorem mPart_ok {cc : Nat} {w : Nat → Int32} {e q : Nat} {z : (Nat → Int32) × Nat} (h : mPart b n cc w e q = .inr z) : pOK z.1 cc e ∧ (∀ i, (i < e ∨ e + 11 ≤ i) → z.1 i = w i) := by
  unfold mPart at h
  split at h
  · cases hm : mCl b n cc q with
    | inl e => rw [hm] at h; cases h
    | inr y =>
      rw [hm] at h; cases h
      refine ⟨Or.inl ⟨by dsimp only; rw [fu_n (by omega), fu_s], y.1, (mCl_lt hm).1, fu_s⟩, fun i hi => ?_⟩
      dsimp only; rw [fu_n (by omega), fu_n (by omega)]
  · split at h
    · cases hm : mNum b n 8 (q + 1) with
      | inl e => rw [hm] at h; cases h
      | inr y =>
        rw [hm] at h; cases h
        refine ⟨Or.inr (Or.inl ⟨by dsimp only; rw [fu_n (by omega), fu_s], y.1, (mNum_lt hm).2, fu_s⟩), fun i hi => ?_⟩
        dsimp only; rw [fu_n (by omega), fu_n (by omega)]
    · cases hm : mShort b n q with
      | inl e => rw [hm] at h; cases h
      | inr y =>
        rw [hm] at h; cases h
        obtain ⟨g1, g2, g3⟩ := mShort_sg hm
        have gl : 1 ≤ y.1.length := by
          cases hy : y.1 with
          | nil => exact absurd hy g2
          | cons _ _ => simp
        refine ⟨Or.inr (Or.inr ⟨?_, y.1.length, gl, g3, ?_, fun i hi => ?_⟩), fun i hi => ?_⟩
        · dsimp only; unfold wdW; rw [if_neg (by omega), fu_n (by omega), fu_s]
        · dsimp only; unfold wdW; rw [if_neg (by omega), fu_s]
        · dsimp only; unfold wdW; rw [if_pos (by omega), show e + 3 + i - (e + 3) = i by omega]; exact g1 i hi
        · dsimp only; unfold wdW; rw [if_neg (by omega), fu_n (by omega), fu_n (by omega)]
theorem mParts_ok {cc p : Nat} : ∀ (F : Nat) (w : Nat → Int32) (k a : Nat) (z : (Nat → Int32) × Nat × Nat), k ≤ 4 → mParts b n cc p F w k a = .inr z → (∀ i, i < k → pOK w cc (eP p i)) → (∀ i, i < z.2.1 → pOK z.1 cc (eP p i)) ∧ z.2.1 ≤ 4 ∧ (∀ i, (i < eP p 0 ∨ eP p 0 + 44 ≤ i) → z.1 i = w i)
  | 0, w, k, a, z, _, h, _ => by cases h
  | F + 1, w, k, a, z, hk, h, hok => by
    unfold mParts at h
    split at h
    · cases h; exact ⟨hok, hk, fun _ _ => rfl⟩
    · split at h
      · split at h
        · cases h
        · rename_i hk4
          cases hm : mPart b n cc w (eP p k) (rsk b n a) with
          | inl e => rw [hm] at h; cases h
          | inr y =>
            rw [hm] at h
            obtain ⟨o1, o2⟩ := mPart_ok hm
            obtain ⟨g1, g2, g3⟩ := mParts_ok F y.1 (k + 1) y.2 z (by omega) h (fun i hi => by
              by_cases hik : i = k
              · subst hik; exact o1
              · exact (hok i (by omega)).of (Nat.le_refl _) (fun j hj => o2 _ (Or.inl (by unfold eP; omega))))
            refine ⟨g1, g2, fun i hi => ?_⟩
            rw [g3 i hi, o2 i (by unfold eP at *; omega)]
      · cases h
theorem mProd_ok {cc p : Nat} {w : Nat → Int32} {rule : Int32} {a : Nat} {z : (Nat → Int32) × Nat} (hr : rule = 0 ∨ rule = 1) (hp : p < 20) (h : mProd b n cc w p rule a = .inr z) : prOK z.1 cc p ∧ ∀ i, (i < 32 + 3 * p ∨ (32 + 3 * p + 3 ≤ i ∧ i < 92 + 44 * p) ∨ 92 + 44 * p + 44 ≤ i) → z.1 i = w i := by
  unfold mProd at h
  cases hm : mNum b n 8 a with
  | inl e => rw [hm] at h; cases h
  | inr y =>
    rw [hm] at h
    dsimp only [rb] at h
    split at h
    · cases h
    · rename_i x hx
      cases h
      obtain ⟨g1, g2, g3⟩ := mParts_ok _ _ _ _ _ (by omega) hx (fun i hi => absurd hi (by omega))
      refine ⟨⟨y.1, x.2.1, (mNum_lt hm).2, g2, ?_, ?_, fu_s, fun k hk => (g1 k hk).of (Nat.le_refl _) (fun i hi => ?_)⟩, fun i hi => ?_⟩
      · dsimp only; rw [fu_n (by omega), g3 _ (by unfold eP; omega), fu_n (by omega), fu_s]
      · dsimp only; rw [fu_n (by omega), g3 _ (by unfold eP; omega), fu_s]; exact hr
      · dsimp only; rw [fu_n (by unfold eP; omega)]
      · dsimp only; rw [fu_n (by omega), g3 i (by unfold eP; omega), fu_n (by omega), fu_n (by omega)]
theorem mQuote_ok {w : Nat → Int32} {k a : Nat} {z : (Nat → Int32) × Nat} (h : mQuote b n w k a = .inr z) : quOK z.1 k ∧ ∀ i, (i < 972 + 5 * k ∨ 972 + 5 * k + 5 ≤ i) → z.1 i = w i := by
  unfold mQuote at h
  cases hm1 : mNum b n 8 a with
  | inl e => rw [hm1] at h; cases h
  | inr y =>
    rw [hm1] at h; dsimp only [rb] at h
    cases hm2 : mNum b n 8 y.2 with
    | inl e => rw [hm2] at h; cases h
    | inr x =>
      rw [hm2] at h; dsimp only [rb] at h
      cases hm3 : mWord b n x.2 with
      | inl e => rw [hm3] at h; cases h
      | inr v =>
        rw [hm3] at h; dsimp only [rb] at h
        split at h
        · rename_i c3
          split at h
          · cases h
          · rename_i cn
            cases h
            obtain ⟨g1, -⟩ := mWord_sg hm3
            refine ⟨⟨y.1, x.1, (mNum_lt hm1).2, (mNum_lt hm2).2, ?_, ?_, ?_, ?_, ?_, ?_, ?_⟩, fun i hi => ?_⟩
            · dsimp only; rw [fu_n (by omega), fu_n (by omega), fu_n (by omega), fu_n (by omega), fu_s]
            · dsimp only; rw [fu_n (by omega), fu_n (by omega), fu_n (by omega), fu_s]
            · dsimp only; rw [fu_n (by omega), fu_n (by omega), fu_s]; exact g1 0 (by omega)
            · dsimp only; rw [fu_n (by omega), fu_s]; exact g1 1 (by omega)
            · dsimp only; rw [fu_s]; exact g1 2 (by omega)
            · dsimp only; rw [fu_s, fu_n (by omega), fu_n (by omega), fu_s]; exact fun z => cn (Or.inl z)
            · dsimp only; rw [fu_s, fu_n (by omega), fu_s]; exact fun z => cn (Or.inr z)
            · dsimp only; rw [fu_n (by omega), fu_n (by omega), fu_n (by omega), fu_n (by omega), fu_n (by omega)]
        · cases h
theorem mNot_ok {cc : Nat} {w : Nat → Int32} {k a : Nat} {z : (Nat → Int32) × Nat} (h : mNot b n cc w k a = .inr z) : noOK z.1 cc k ∧ ∀ i, (i < 992 + 2 * k ∨ 992 + 2 * k + 2 ≤ i) → z.1 i = w i := by
  unfold mNot at h
  cases hm1 : mNum b n 8 a with
  | inl e => rw [hm1] at h; cases h
  | inr y =>
    rw [hm1] at h; dsimp only [rb] at h
    cases hm2 : mCl b n cc y.2 with
    | inl e => rw [hm2] at h; cases h
    | inr x =>
      rw [hm2] at h; cases h
      refine ⟨⟨y.1, x.1, (mNum_lt hm1).2, (mCl_lt hm2).1, by dsimp only; rw [fu_n (by omega), fu_s], fu_s⟩, fun i hi => ?_⟩
      dsimp only; rw [fu_n (by omega), fu_n (by omega)]
theorem mDrop_ok {w : Nat → Int32} {k pl c a : Nat} {z : (Nat → Int32) × Nat} (hpl : pl ≤ 600) (hc : c ≤ 60) (h : mDrop b n w k pl c a = .inr z) : drOK z.1 k ∧ ∀ i, (i < 1008 + 4 * k ∨ 1008 + 4 * k + 4 ≤ i) → z.1 i = w i := by
  unfold mDrop at h
  cases hm1 : mNum b n 8 a with
  | inl e => rw [hm1] at h; cases h
  | inr y =>
    rw [hm1] at h; dsimp only [rb] at h
    cases hm2 : mNum b n 8 y.2 with
    | inl e => rw [hm2] at h; cases h
    | inr x =>
      rw [hm2] at h; dsimp only [rb] at h
      split at h
      · cases h
      · rename_i cn
        cases h
        refine ⟨⟨y.1, x.1, pl, c, (mNum_lt hm1).2, (mNum_lt hm2).2, fun z => cn z.symm, hpl, hc, ?_, ?_, ?_, fu_s⟩, fun i hi => ?_⟩
        · dsimp only; rw [fu_n (by omega), fu_n (by omega), fu_n (by omega), fu_s]
        · dsimp only; rw [fu_n (by omega), fu_n (by omega), fu_s]
        · dsimp only; rw [fu_n (by omega), fu_s]
        · dsimp only; rw [fu_n (by omega), fu_n (by omega), fu_n (by omega), fu_n (by omega)]
theorem mSet_ok {cc : Nat} {w : Nat → Int32} {k a : Nat} {z : (Nat → Int32) × Nat} (h : mSet b n cc w k a = .inr z) : bI (z.1 (8 + 3 * k + 2)) 31 = false ∧ ∀ i, (i < 8 + 3 * k ∨ 8 + 3 * k + 3 ≤ i) → z.1 i = w i := by
  unfold mSet at h
  cases hm1 : mS b n cc (wCls w) (2 * n + 4) 0 false a with
  | inl e => rw [hm1] at h; cases h
  | inr y =>
    rw [hm1] at h; cases h
    refine ⟨by dsimp only; rw [fu_s]; exact pk2_31, fun i hi => ?_⟩
    dsimp only; rw [fu_n (by omega), fu_n (by omega), fu_n (by omega)]
theorem WC.of {w w' : Nat → Int32} (h : WC w) (f : ∀ i, i < 5 → w' i = w i) (g : ∀ c, c < wN w 0 → w' (8 + 3 * c + 2) = w (8 + 3 * c + 2)) : WC w' := by
  obtain ⟨h0, h1, h2, h3, h4, h5⟩ := h
  have e : ∀ i, i < 5 → wN w' i = wN w i := fun i hi => by unfold wN; rw [f i hi]
  refine ⟨?_, ?_, ?_, ?_, ?_, fun c hc => ?_⟩
  · rw [f 0 (by omega), e 0 (by omega)]; exact h0
  · rw [f 1 (by omega), e 1 (by omega)]; exact h1
  · rw [f 2 (by omega), e 2 (by omega)]; exact h2
  · rw [f 3 (by omega), e 3 (by omega)]; exact h3
  · rw [f 4 (by omega), e 4 (by omega)]; exact h4
  · rw [e 0 (by omega)] at hc; rw [g c hc]; exact h5 c hc
/-- one more of a kind -/
theorem WC.up {w : Nat → Int32} {k : Nat} (h : WC w) (hk : k < 5) (hm : wN w k < (if k = 0 then 8 else if k = 1 then 20 else if k = 2 then 4 else 8)) (h9 : k = 0 → bI (w (8 + 3 * wN w 0 + 2)) 31 = false) : WC (fu w k (ni (wN w k + 1))) ∧ (∀ i, i ≠ k → wN (fu w k (ni (wN w k + 1))) i = wN w i) ∧ wN (fu w k (ni (wN w k + 1))) k = wN w k + 1 := by
  have e : ∀ i, i ≠ k → wN (fu w k (ni (wN w k + 1))) i = wN w i := fun i hi => by unfold wN; rw [fu_n hi]
  have ek : wN (fu w k (ni (wN w k + 1))) k = wN w k + 1 := by
    show (fu w k _ k).toNatClampNeg = _
    rw [fu_s, ni_nat]
    have : (if k = 0 then 8 else if k = 1 then 20 else if k = 2 then 4 else 8) ≤ 20 := by repeat' split
                                                                                          all_goals omega
    omega
  obtain ⟨h0, h1, h2, h3, h4, h5⟩ := h
  refine ⟨?_, e, ek⟩
  have key : ∀ j M, j < 5 → (w j = ni (wN w j) ∧ wN w j ≤ M) → (j = k → wN w k < M) → (fu w k (ni (wN w k + 1)) j = ni (wN (fu w k (ni (wN w k + 1))) j) ∧ wN (fu w k (ni (wN w k + 1))) j ≤ M) := by
    intro j M hj hw hM
    by_cases c : j = k
    · subst c
      rw [ek, fu_s]
      exact ⟨rfl, hM rfl⟩
    · rw [e j c, fu_n c]; exact hw
  refine ⟨key 0 8 (by omega) h0 (fun z => by subst z; exact hm), key 1 20 (by omega) h1 (fun z => by subst z; exact hm), key 2 4 (by omega) h2 (fun z => by subst z; exact hm), key 3 8 (by omega) h3 (fun z => by subst z; exact hm), key 4 8 (by omega) h4 (fun z => by subst z; exact hm), fun c hc => ?_⟩
  rw [fu_n (by omega)]
  by_cases c0 : k = 0
  · subst c0
    rw [ek] at hc
    by_cases cl : c < wN w 0
    · exact h5 c cl
    · have : c = wN w 0 := by omega
      subst this
      exact h9 rfl
  · rw [e 0 (fun z => c0 z.symm)] at hc
    exact h5 c hc
end WGS
