/-! The reference: a whole grammar -/
/-- the least from k on, of m, that f tells -/
def dF (f : Nat → Bool) : Nat → Nat → Option Nat
  | 0, _ => none
  | m + 1, k => if f k = true then some k else dF f m (k + 1)
theorem dF_none {f : Nat → Bool} : ∀ m k, dF f m k = none → ∀ i, k ≤ i → i < k + m → f i = false
  | 0, k, _, i, h1, h2 => absurd h2 (by omega)
  | m + 1, k, h, i, h1, h2 => by
    unfold dF at h
    split at h
    · cases h
    · rename_i c
      by_cases e : i = k
      · subst e; exact (Bool.not_eq_true _).mp c
      · exact dF_none m (k + 1) h i (by omega) (by omega)
theorem dF_some {f : Nat → Bool} : ∀ m k d, dF f m k = some d → k ≤ d ∧ d < k + m ∧ f d = true
  | 0, k, d, h => by cases h
  | m + 1, k, d, h => by
    unfold dF at h
    split at h
    · cases h; exact ⟨Nat.le_refl _, by omega, by assumption⟩
    · obtain ⟨h1, h2, h3⟩ := dF_some m (k + 1) d h
      exact ⟨by omega, by omega, h3⟩
/-- a drop that is not sound -/
def badD (w : Nat → Int32) (d : Nat) : Bool := ndW w 8 (wN w (1008 + 4 * d + 1)) (wN w (1008 + 4 * d))
/-- a row of no clauses, with a tail of no matter -/
def w0T (T : Nat → Int32) : Nat → Int32 := fun i => if i < 1040 then w0 i else T i
/-- a grammar's text: a fault (kind, place, clause), or its row -/
def mGram (b : Nat → Int32) (n : Nat) (T : Nat → Int32) : (Nat × Nat × Nat) ⊕ (Nat → Int32) := match mClauses b n 62 (w0T T) 0 0 with
  | .inl e => .inl e
  | .inr w => match dF (badD w) (wN w 4) 0 with
    | some d => .inl (4, wN w (1008 + 4 * d + 2), wN w (1008 + 4 * d + 3))
    | none => .inr w
theorem sndW_of {w : Nat → Int32} (h : dF (badD w) (wN w 4) 0 = none) : sndW w := by
  intro s t hd
  obtain ⟨d, h1, h2, h3⟩ := drpW_iff.mp hd
  have := dF_none _ _ h d (Nat.zero_le _) (by omega)
  unfold badD at this
  rw [h2, h3] at this
  exact this
/-- what a grammar's reading may change in the reference -/
def rGs (o k : Nat) : Prop := (o = 163 ∧ (k = 0 ∨ k = 2 ∨ (3 ≤ k ∧ k ≤ 8) ∨ k = 10 ∨ (14 ≤ k ∧ k ≤ 19) ∨ k = 28 ∨ k = 33)) ∨ o = 166 ∨ (168 ≤ o ∧ o ≤ 173) ∨ o = 178
section RS4
variable {d0 : Nat} {P : am_O → Prop} {J : am_J} {Pf : am_R}
theorem sr_copies (hp : am_PF Pf) {x y L m : Nat} (hx : am_SH[x]? = some (.inr (0, L))) (hy : am_SH[y]? = some (.inr (0, m))) (hxy : x ≠ y) (hL : m ≤ L) (hm : m < 100000) {n : Nat} (hn : n ≤ m) {I : am_I}
    (kk : ∀ I', (∀ i, i < n → I' y i = I x i) → (∀ o k, ¬ (o = y ∧ k < n) → I' o k = I o k) → P (.inl none, (am_SH, I', J, Pf), 0, 0)) : am_mth (d0 + 1) 207 [.ref 163, .ref x, .ref y, .int (ni n)] (am_SH, I, J, Pf) P := by
  have L : ∀ (q : Nat) (I : am_I) (k : Nat) (l0 : Option Value), n - k = q → k ≤ n → (∀ I', (∀ i, k ≤ i → i < n → I' y i = I x i) → (∀ o i, ¬ (o = y ∧ k ≤ i ∧ i < n) → I' o i = I o i) → P (.inl none, (am_SH, I', J, Pf), 0, 0)) → am_go none d0 207 (3, [l0, some (.ref x), some (.ref y), some (.int (ni n)), some (.int (ni k))], [], (am_SH, I, J, Pf), 0, 0) P := by
    intro q
    induction q with
    | zero =>
      intro I k l0 hq hk kk
      refine v207_3 hp hx hy ?_
      rw [if_pos ((ni_le (by omega) (by omega)).mpr (by omega))]
      exact kk I (fun i h1 h2 => absurd h2 (by omega)) (fun _ _ _ => rfl)
    | succ q ih =>
      intro I k l0 hq hk kk
      refine v207_3 hp hx hy ?_
      rw [if_neg (fun z => absurd ((ni_le (by omega) (by omega)).mp z) (by omega)), ni_nat (by omega), ni_p1]
      refine ⟨ni_in (by omega) (by omega), ni_in (by omega) (by omega), ih _ (k + 1) _ (by omega) (by omega) (fun I' f1 f2 => kk I' (fun i h1 h2 => ?_) (fun o i h => ?_))⟩
      · by_cases c : i = k
        · subst c
          rw [f2 _ _ (by omega), am_u_same]
        · rw [f1 i (by omega) h2, am_u_nq (by omega)]
      · rw [f2 _ _ (by omega), am_u_nq (by omega)]
  refine am_mth_of rfl rfl (v207_0 hp hx hy ?_)
  rw [ni_0]
  exact L n I 0 _ rfl (Nat.zero_le _) (fun I' f1 f2 => kk I' (fun i h => f1 i (Nat.zero_le _) h) (fun o k h => f2 o k (by omega)))
theorem sr_clears (hp : am_PF Pf) {I : am_I} (kk : ∀ I', I' 166 = w0T (I 166) → (∀ o k, o ≠ 166 → I' o k = I o k) → P (.inl none, (am_SH, I', J, Pf), 0, 0)) : am_mth (d0 + 1) 208 [.ref 163] (am_SH, I, J, Pf) P := by
  have L : ∀ (q : Nat) (I1 : am_I) (k : Nat), 1040 - k = q → k ≤ 1040 → (∀ i, i < k → I1 166 i = 0) → (∀ i, k ≤ i → I1 166 i = I 166 i) → (∀ I', I' 166 = w0T (I 166) → (∀ o k, o ≠ 166 → I' o k = I1 o k) → P (.inl none, (am_SH, I', J, Pf), 0, 0)) → am_go none d0 208 (2, [some (.ref 163), some (.int (ni k))], [], (am_SH, I1, J, Pf), 0, 0) P := by
    intro q
    induction q with
    | zero =>
      intro I k hq hk h0 h1 kk
      have : k = 1040 := by omega
      subst this
      refine v208_2 hp ?_
      rw [if_pos (by decide)]
      refine kk _ (funext fun i => ?_) (fun o k h => am_u_nq (by omega))
      unfold w0T
      by_cases ci : i < 1040
      · rw [if_pos ci]
        unfold w0
        by_cases c : i = 5
        · subst c; rw [am_u_same, fu_s]
        · rw [am_u_nq (by omega), fu_n c]; exact h0 i ci
      · rw [if_neg ci, am_u_nq (by omega)]
        exact h1 i (by omega)
    | succ q ih =>
      intro I k hq hk h0 h1 kk
      refine v208_2 hp ?_
      rw [if_neg (fun z => absurd ((gle 1040 (by omega) (by omega)).mp z) (by omega)), ni_nat (by omega), ni_p1]
      refine ⟨ni_in (by omega) (by omega), ih _ (k + 1) (by omega) (by omega) (fun i hi => ?_) (fun i hi => by rw [am_u_nq (by omega)]; exact h1 i (by omega)) (fun I' f1 f2 => kk I' f1 (fun o k h => (f2 o k h).trans (am_u_nq (by omega))))⟩
      by_cases c : i = k
      · subst c; exact am_u_same
      · rw [am_u_nq (by omega)]; exact h0 i (by omega)
  refine am_mth_of rfl rfl (v208_0 hp ?_)
  rw [ni_0]
  exact L 1040 I 0 rfl (by omega) (fun i hi => absurd hi (by omega)) (fun _ _ => rfl) kk
theorem mBody_hi {b : Nat → Int32} {n : Nat} {w : Nat → Int32} {kd pl c a : Nat} {z : (Nat → Int32) × Nat} (h : WG w) (h1 : 1 ≤ kd) (h7 : kd ≤ 7) (hfull : kd ≠ 7 → wN w (kdC kd) < kdM kd) (hpl : pl ≤ 600) (hc : c ≤ 60) (hm : mBody b n w kd pl c a = .inr z) : ∀ i, 1040 ≤ i → kdUp z.1 kd i = w i := by
  have hkd : kd = 1 ∨ kd = 2 ∨ kd = 3 ∨ kd = 4 ∨ kd = 5 ∨ kd = 6 ∨ kd = 7 := by omega
  unfold mBody at hm
  intro i hi
  have up : ∀ kd, kd ≠ 7 → kdC kd < 5 → kdUp z.1 kd i = z.1 i := fun kd h77 hk => by unfold kdUp; rw [if_neg h77, fu_n (by omega)]
  rcases hkd with rfl | rfl | rfl | rfl | rfl | rfl | rfl
  · have hf0 := hfull (by decide)
    change wN w 0 < 8 at hf0
    rw [if_pos rfl] at hm
    rw [up _ (by decide) (by decide), (mSet_ok hm).2 i (by omega)]
  · have hf0 := hfull (by decide)
    change wN w 1 < 20 at hf0
    rw [if_neg (by decide), if_pos rfl] at hm
    rw [up _ (by decide) (by decide), (mProd_ok (Or.inr rfl) hf0 hm).2 i (by omega)]
  · have hf0 := hfull (by decide)
    change wN w 1 < 20 at hf0
    rw [if_neg (by decide), if_neg (by decide), if_pos rfl] at hm
    rw [up _ (by decide) (by decide), (mProd_ok (Or.inl rfl) hf0 hm).2 i (by omega)]
  · have hf0 := hfull (by decide)
    change wN w 2 < 4 at hf0
    rw [if_neg (by decide), if_neg (by decide), if_neg (by decide), if_pos rfl] at hm
    rw [up _ (by decide) (by decide), (mQuote_ok hm).2 i (by omega)]
  · have hf0 := hfull (by decide)
    change wN w 3 < 8 at hf0
    rw [if_neg (by decide), if_neg (by decide), if_neg (by decide), if_neg (by decide), if_pos rfl] at hm
    rw [up _ (by decide) (by decide), (mNot_ok hm).2 i (by omega)]
  · have hf0 := hfull (by decide)
    change wN w 4 < 8 at hf0
    rw [if_neg (by decide), if_neg (by decide), if_neg (by decide), if_neg (by decide), if_neg (by decide), if_pos rfl] at hm
    rw [up _ (by decide) (by decide), (mDrop_ok hpl hc hm).2 i (by omega)]
  · rw [if_neg (by decide), if_neg (by decide), if_neg (by decide), if_neg (by decide), if_neg (by decide), if_neg (by decide)] at hm
    cases hm1 : mCl b n (wN w 0) a with
    | inl e => rw [hm1] at hm; cases hm
    | inr y =>
      rw [hm1] at hm; cases hm
      show fu w 5 (ni y.1) i = w i
      rw [fu_n (by omega)]
theorem mClauses_ok {b : Nat → Int32} {n : Nat} (hn : n ≤ 600) : ∀ (F : Nat) (w : Nat → Int32) (c a : Nat) (w' : Nat → Int32), a ≤ n → c ≤ 60 → WG w → mClauses b n F w c a = .inr w' → WG w' ∧ ∀ i, 1040 ≤ i → w' i = w i
  | 0, w, c, a, w', _, _, _, h => by cases h
  | F + 1, w, c, a, w', ha, hc, hW, h => by
    have hq := rsk_le (b := b) ha
    unfold mClauses at h
    split at h
    · cases h; exact ⟨hW, fun _ _ => rfl⟩
    · split at h
      · cases h
      · rename_i z hz
        unfold mClause at hz
        split at hz
        · cases hz
        · rename_i hk0
          split at hz
          · cases hz
          · rename_i hnf
            cases hmb : mBody b n w (kdN b (rsk b n a) (mNE b n a)) (rsk b n a) c (mNE b n a) with
            | inl e => rw [hmb] at hz; cases hz
            | inr y =>
              rw [hmb] at hz
              dsimp only [rb] at hz
              cases hmt : mTake b n 59 y.2 with
              | inl e => rw [hmt] at hz; cases hz
              | inr t =>
                rw [hmt] at hz
                cases hz
                have hk7 := kdN_le (b := b) (q := rsk b n a) (e := mNE b n a)
                have hful : kdN b (rsk b n a) (mNE b n a) ≠ 7 → wN w (kdC (kdN b (rsk b n a) (mNE b n a))) < kdM (kdN b (rsk b n a) (mNE b n a)) := by
                  intro h77
                  have hne : ¬ wN w (kdC (kdN b (rsk b n a) (mNE b n a))) = kdM (kdN b (rsk b n a) (mNE b n a)) := fun z => hnf (Or.inr ⟨h77, z⟩)
                  generalize kdN b (rsk b n a) (mNE b n a) = kd at *
                  have hle : wN w (kdC kd) ≤ kdM kd := by
                    obtain ⟨⟨w0, w0'⟩, ⟨w1, w1'⟩, ⟨w2, w2'⟩, ⟨w3, w3'⟩, ⟨w4, w4'⟩, wk⟩ := hW.1
                    have : kd = 1 ∨ kd = 2 ∨ kd = 3 ∨ kd = 4 ∨ kd = 5 ∨ kd = 6 := by omega
                    rcases this with rfl | rfl | rfl | rfl | rfl | rfl
                    · exact w0'
                    · exact w1'
                    · exact w1'
                    · exact w2'
                    · exact w3'
                    · exact w4'
                  omega
                have hWy := hW.body (by omega) hk7 hful (by omega) hc hmb
                have hi := mBody_hi hW (by omega) hk7 hful (by omega) hc hmb
                have hc60 : c ≠ 60 := fun z => hnf (Or.inl z)
                obtain ⟨r1, r2⟩ := mClauses_ok hn F _ (c + 1) t w' (mTake_le (by decide) hmt) (by omega) hWy h
                exact ⟨r1, fun i h9 => (r2 i h9).trans (hi i h9)⟩
/-- rows that are alike as far as they go -/
def agr (w w2 : Nat → Int32) : Prop := ∀ i, i < 1040 → w2 i = w i
theorem agr.N {w w2 : Nat → Int32} (h : agr w w2) {i : Nat} (hi : i < 1040) : wN w2 i = wN w i := wN_eq (h i hi)
theorem WG.agr {w w2 : Nat → Int32} (hG : WG w) (h : agr w w2) : WG w2 := by
  obtain ⟨⟨w0, w0'⟩, ⟨w1, w1'⟩, ⟨w2', w2''⟩, ⟨w3, w3'⟩, ⟨w4, w4'⟩, wk⟩ := id hG.1
  refine ⟨hG.1.of (fun i hi => h i (by omega)) (fun c hc => h _ (by omega)), fun p hp => ?_, fun q hq => ?_, fun j hj => ?_, fun d hd => ?_, ?_⟩
  · rw [h.N (by omega)] at hp ⊢
    exact (hG.2.1 p hp).of (Nat.le_refl _) (fun i hi => h _ (by omega)) (fun i hi => h _ (by omega))
  · rw [h.N (by omega)] at hq
    exact (hG.2.2.1 q hq).of (fun i hi => h _ (by omega))
  · rw [h.N (by omega)] at hj ⊢
    exact (hG.2.2.2.1 j hj).of (Nat.le_refl _) (fun i hi => h _ (by omega))
  · rw [h.N (by omega)] at hd
    exact (hG.2.2.2.2.1 d hd).of (fun i hi => h _ (by omega))
  · rw [h.N (by omega)]
    have := hG.2.2.2.2.2
    unfold laOK at *
    rw [h 5 (by omega)]
    exact this
theorem anyB_congr {f g : Nat → Bool} {n : Nat} (h : ∀ i, i < n → f i = g i) : anyB n f = anyB n g := by
  rw [Bool.eq_iff_iff, anyB_iff, anyB_iff]
  constructor
  · rintro ⟨i, h1, h2⟩; exact ⟨i, h1, by rw [← h i h1]; exact h2⟩
  · rintro ⟨i, h1, h2⟩; exact ⟨i, h1, by rw [h i h1]; exact h2⟩
theorem useW_agr {w w2 : Nat → Int32} (hG : WG w) (h : agr w w2) : useW w2 = useW w := by
  obtain ⟨⟨w0, w0'⟩, ⟨w1, w1'⟩, ⟨w2', w2''⟩, ⟨w3, w3'⟩, ⟨w4, w4'⟩, wk⟩ := id hG.1
  funext s t
  unfold useW
  rw [h.N (i := 1) (by omega), h.N (i := 2) (by omega)]
  congr 1
  · refine anyB_congr (fun p hp => ?_)
    have hc := (hG.pr hp).2.2.1
    unfold useP
    rw [h.N (by omega), h.N (by omega)]
    congr 1
    refine anyB_congr (fun k hk => ?_)
    rw [h _ (by unfold eP; omega), h.N (by unfold eP; omega)]
  · refine anyB_congr (fun q hq => ?_)
    unfold useQ
    rw [h.N (by omega), h.N (by omega)]
theorem drpW_agr {w w2 : Nat → Int32} (hG : WG w) (h : agr w w2) : drpW w2 = drpW w := by
  obtain ⟨⟨w0, w0'⟩, ⟨w1, w1'⟩, ⟨w2', w2''⟩, ⟨w3, w3'⟩, ⟨w4, w4'⟩, wk⟩ := id hG.1
  funext s t
  unfold drpW
  rw [h.N (i := 4) (by omega)]
  refine anyB_congr (fun d hd => ?_)
  unfold drpD
  rw [h.N (by omega), h.N (by omega)]
theorem ndW_agr {w w2 : Nat → Int32} (hG : WG w) (h : agr w w2) : ndW w2 = ndW w := by
  have : ndE w2 = ndE w := by unfold ndE; rw [useW_agr hG h, drpW_agr hG h]
  unfold ndW
  rw [this]
theorem foldN_congr {α : Type} {f g : Nat → α → α} {a : α} : ∀ n, (∀ i y, i < n → f i y = g i y) → foldN n f a = foldN n g a
  | 0, _ => rfl
  | n + 1, h => by
    unfold foldN
    rw [foldN_congr n (fun i y hi => h i y (by omega)), h n _ (by omega)]
theorem lyW_agr {w w2 : Nat → Int32} (hG : WG w) (h : agr w w2) : lyW w2 = lyW w := by
  obtain ⟨⟨w0, w0'⟩, ⟨w1, w1'⟩, ⟨w2', w2''⟩, ⟨w3, w3'⟩, ⟨w4, w4'⟩, wk⟩ := id hG.1
  funext j
  unfold lyW
  refine foldN_congr j (fun i y _ => ?_)
  unfold lyTurn
  have e1 : lyAll w2 8 y = lyAll w 8 y := by unfold lyAll lyRow lyS; rw [useW_agr hG h]
  rw [e1, h.N (i := 4) (by omega)]
  unfold lyDrs
  refine foldN_congr _ (fun d z hd => ?_)
  unfold lyDr
  rw [h.N (i := 1008 + 4 * d) (by omega), h.N (i := 1008 + 4 * d + 1) (by omega)]
theorem rSo.agr {I : am_I} {w w2 : Nat → Int32} (hG : WG w) (h : agr w w2) (hs : rSo I w) : rSo I w2 := by
  unfold rSo at *
  rw [useW_agr hG h, ndW_agr hG h, lyW_agr hG h]
  exact hs
theorem sndW.agr {w w2 : Nat → Int32} (hG : WG w) (h : agr w w2) (hs : sndW w) : sndW w2 := by
  unfold sndW at *
  rw [drpW_agr hG h, ndW_agr hG h]
  exact hs
theorem sr_sets (hp : am_PF Pf) {I : am_I} {w : Nat → Int32} (hG : WG w) (hw : ∀ i, i < 1040 → I 166 i = w i) (hhi : ∀ i, 1040 ≤ i → I 167 i = w i)
    (kk : ∀ I', I' 167 = w → rSo I' w → I' 163 29 = 0 → I' 163 34 = 0 → I' 163 65 = 0 → I' 163 35 = 0 → I' 163 48 = 0 → I' 163 46 = 0 → (∀ i, i < 25 → I' 180 i = 0) → (∀ o k, ¬ (o = 163 ∧ (k = 29 ∨ k = 34 ∨ k = 65 ∨ k = 35 ∨ k = 48 ∨ k = 46)) → o ≠ 167 → ¬ (169 ≤ o ∧ o ≤ 171) → o ≠ 180 → I' o k = I o k) → P (.inl none, (am_SH, I', J, Pf), 0, 0)) : am_mth (d0 + 3) 209 [.ref 163] (am_SH, I, J, Pf) P := by
  have L : ∀ (q : Nat) (I1 : am_I) (k : Nat), 25 - k = q → k ≤ 25 → I1 167 = w → (∀ i, i < k → I1 180 i = 0) → (∀ I', I' 167 = w → rSo I' w → (∀ i, i < 25 → I' 180 i = 0) → (∀ o k, ¬ (169 ≤ o ∧ o ≤ 171) → o ≠ 180 → I' o k = I1 o k) → P (.inl none, (am_SH, I', J, Pf), 0, 0)) → am_go none (d0 + 2) 209 (47, [some (.ref 163), some (.int (ni k))], [], (am_SH, I1, J, Pf), 0, 0) P := by
    intro q
    induction q with
    | zero =>
      intro I1 k hq hk hw h0 kk
      have : k = 25 := by omega
      subst this
      refine v209_47 hp ?_
      rw [if_pos (by decide)]
      refine sr_sorts (d0 := d0) (w := w) hp rfl (by omega) (by omega) (by omega) hG hw (fun I' f1 f2 => am_back (v209_74 hp (kk I' ?_ f1 (fun i hi => ?_) (fun o k e1 e2 => f2 o k (by omega) (by omega) (by omega)))))
      · rw [← hw]; funext k; exact f2 _ _ (by omega) (by omega) (by omega)
      · rw [f2 _ _ (by omega) (by omega) (by omega)]; exact h0 i hi
    | succ q ih =>
      intro I1 k hq hk hw h0 kk
      refine v209_47 hp ?_
      rw [if_neg (fun z => absurd ((gle 25 (by omega) (by omega)).mp z) (by omega)), ni_nat (by omega), ni_p1]
      refine ⟨ni_in (by omega) (by omega), ih _ (k + 1) (by omega) (by omega) ((am_u_o (by omega)).trans hw) (fun i hi => ?_) (fun I' f0 f1 f2 f3 => kk I' f0 f1 f2 (fun o k e1 e2 => (f3 o k e1 e2).trans (am_u_nq (by omega))))⟩
      by_cases c : i = k
      · subst c; exact am_u_same
      · rw [am_u_nq (by omega)]; exact h0 i (by omega)
  refine am_mth_of rfl rfl (v209_0 hp ?_)
  rw [show (1040 : Int32) = ni 1040 from rfl]
  refine sr_copies (d0 := d0 + 1) (x := 166) (y := 167) (L := 1040) (m := 1040) hp rfl rfl (by omega) (by omega) (by omega) (by omega) (fun I1 f1 f2 => am_back (v209_15 hp ?_))
  have e1 : I1 167 = w := by
    funext i
    by_cases c : i < 1040
    · rw [f1 i c, hw i c]
    · rw [f2 _ _ (by omega)]; exact hhi i (by omega)
  rw [ni_0]
  refine L 25 _ 0 rfl (by omega) ?_ (fun i hi => absurd hi (by omega)) (fun I' g0 g1 g2 g3 => ?_)
  · rw [am_u_o (by omega), am_u_o (by omega), am_u_o (by omega), am_u_o (by omega), am_u_o (by omega), am_u_o (by omega)]; exact e1
  · have g4 : ∀ o k, ¬ (o = 163 ∧ (k = 29 ∨ k = 34 ∨ k = 65 ∨ k = 35 ∨ k = 48 ∨ k = 46)) → o ≠ 167 → ¬ (169 ≤ o ∧ o ≤ 171) → o ≠ 180 → I' o k = I o k := fun o k e1 e2 e3 e4 => by
      rw [g3 o k e3 e4, am_u_nq (by omega), am_u_nq (by omega), am_u_nq (by omega), am_u_nq (by omega), am_u_nq (by omega), am_u_nq (by omega), f2 _ _ (by omega)]
    refine kk I' g0 g1 ?_ ?_ ?_ ?_ ?_ ?_ g2 g4
    all_goals (rw [g3 _ _ (by omega) (by omega)]; simp [am_u, ni])
end RS4
