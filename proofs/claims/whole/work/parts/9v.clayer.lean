/-! The class's finder: a layer at one place -/
def pos (H : Nat → Nat → Nat → Nat) (t b e : Nat) : Prop := 0 < H t b e
theorem bts_self (v : Int32) : bts v (fun j => bI v j = true) := fun _ _ => Iff.rfl
section PSV
variable {w : Nat → Int32} {T : TX} {Q : Nat → Nat → Nat → Prop} {Ht : Nat → Nat → Nat → Nat}
theorem prE_mono {S S' : Nat → Nat → Nat → Prop} {p k b e : Nat} (h : w (eP p k) = 1 → b ≤ e → e ≤ T.1 → S (wN w (eP p k + 1)) b e → S' (wN w (eP p k + 1)) b e) (g : prE w T S p k b e) : prE w T S' p k b e := by
  rcases g with z | z | z
  · exact Or.inl z
  · exact Or.inr (Or.inl ⟨z.1, z.2.1, z.2.2.1, h z.1 z.2.1 z.2.2.1 z.2.2.2⟩)
  · exact Or.inr (Or.inr z)
theorem rch_mono {S S' : Nat → Nat → Nat → Prop} {p i : Nat} (h : ∀ t b e, S t b e → S' t b e) : ∀ k j, rch w T S p i k j → rch w T S' p i k j
  | 0, _, z => z
  | k + 1, j, ⟨m, z1, z2⟩ => ⟨m, rch_mono h k m z1, prE_mono (fun _ _ _ => h _ _ _) z2⟩
theorem lo_mono {H : Nat → Nat → Nat → Nat} {h h' : Nat} (g : h ≤ h') {t b e : Nat} (z : lo H h t b e) : lo H h' t b e := by
  unfold lo at *
  omega
theorem rch_lo {p i : Nat} : ∀ k j, rch w T (pos Ht) p i k j → ∃ h, rch w T (lo Ht h) p i k j
  | 0, j, z => ⟨0, z⟩
  | k + 1, j, ⟨m, z1, z2⟩ => by
    obtain ⟨h, y⟩ := rch_lo k m z1
    refine ⟨h + Ht (wN w (eP p k + 1)) (bgW w T p k m) j, m, rch_mono (fun t b e => lo_mono (by omega)) k m y, prE_mono (fun _ _ _ z => ?_) z2⟩
    unfold pos at z
    unfold lo
    omega
/-- what is of a sort at all -/
theorem sol_pos {m : Nat} (hS : Sol w T Q m Ht) {s i j : Nat} (h8 : s < 8) (hm : m ≤ i) (hij : i ≤ j) (hj : j ≤ T.1) : 0 < Ht s i j ↔ (may w T Ht s i j ∧ stp w T Q (pos Ht) s i j) := by
  constructor
  · intro h
    obtain ⟨y, hy⟩ : ∃ y, Ht s i j = y + 1 := ⟨Ht s i j - 1, by omega⟩
    obtain ⟨z1, z2⟩ := (hS s i j h8 hm hij hj y).mp ⟨h, by omega⟩
    refine ⟨z1, ?_⟩
    rcases z2 with z | ⟨p, p1, p2, p3⟩
    · exact Or.inl z
    · exact Or.inr ⟨p, p1, p2, rch_mono (fun t b e y => y.1) _ _ p3⟩
  · rintro ⟨z1, z2⟩
    rcases z2 with z | ⟨p, p1, p2, p3⟩
    · exact ((hS s i j h8 hm hij hj 0).mpr ⟨z1, Or.inl z⟩).1
    · obtain ⟨h, y⟩ := rch_lo _ _ p3
      exact ((hS s i j h8 hm hij hj h).mpr ⟨z1, Or.inr ⟨p, p1, p2, y⟩⟩).1
/-- a production that doesn't begin with a sort asks for nothing at its own place -/
theorem rch_nl (hG : WG w) {S S' : Nat → Nat → Nat → Prop} {p i : Nat} (hpp : p < wN w 1) (hi : i ≤ T.1) (hn : ¬ (0 < wN w (32 + 3 * p + 2) ∧ w (eP p 0) = 1)) (h : ∀ k, k < wN w (32 + 3 * p + 2) → w (eP p k) = 1 → ∀ b e, i < b → b ≤ e → e ≤ T.1 → S (wN w (eP p k + 1)) b e → S' (wN w (eP p k + 1)) b e) : ∀ k j, k ≤ wN w (32 + 3 * p + 2) → rch w T S p i k j → rch w T S' p i k j ∧ (0 < k → i < j)
  | 0, j, _, z => ⟨z, fun y => absurd y (by omega)⟩
  | k + 1, j, hk, ⟨m, z1, z2⟩ => by
    obtain ⟨a1, a2⟩ := rch_nl hG hpp hi hn h k m (by omega) z1
    have hm := rch_le hG hi k m z1
    have hb := bgW_le (w := w) (p := p) (k := k) hm.2
    have he := prE_le hG z2
    by_cases c : k = 0
    · subst c
      have h1 : w (eP p 0) ≠ 1 := fun z => hn ⟨by omega, z⟩
      refine ⟨⟨m, a1, prE_k h1 z2⟩, fun _ => ?_⟩
      rcases (hG.pr hpp).2.2.2.2.2 0 (by omega) with ⟨t1, -⟩ | ⟨t1, -⟩ | ⟨t1, mm, t2, t3, t4, -⟩
      · rcases z2 with z | z | z
        · omega
        · exact absurd z.1 h1
        · have := z.1; rw [t1] at this; cases this
      · exact absurd t1 h1
      · have en : wN w (eP p 0 + 2) = mm := by unfold wN; rw [t4]; exact ni_nat (by omega)
        rcases z2 with z | z | z
        · have := z.1; rw [t1] at this; cases this
        · exact absurd z.1 h1
        · have := z.2.1; omega
    · have := a2 (by omega)
      exact ⟨⟨m, a1, prE_mono (fun y0 y1 y2 => h k (by omega) y0 _ _ (by omega) y1 y2) z2⟩, fun _ => by omega⟩
end PSV
section FNI
variable (w : Nat → Int32) (T : TX) (Ht : Nat → Nat → Nat → Nat)
/-- the pieces told at a place, those from it on; of layers below all -/
def pIv (x i L : Nat) (I : am_I) (S : Nat → Nat → Nat → Prop) : Prop := (∀ b, i ≤ b → b ≤ T.1 → cRw (x + 3) I T.1 S b) ∧ (∀ t b e, t < 8 → i < b → b ≤ e → e ≤ T.1 → (S t b e ↔ pos Ht t b e)) ∧ (∀ t e, t < 8 → i ≤ e → e ≤ T.1 → S t i e → pos Ht t i e) ∧ (∀ t e, t < 8 → lyW w 64 t < L → i ≤ e → e ≤ T.1 → pos Ht t i e → S t i e)
def cAl (I : am_I) (L i : Nat) : Prop := ∀ s, s < 8 → lyW w 64 s = L → ∀ j, i ≤ j → j ≤ T.1 → (bI (I 115 s) j = true ↔ may w T Ht s i j)
/-- all productions of a layer -/
def pCl (L i : Nat) (S : Nat → Nat → Nat → Prop) : Prop := ∀ p, p < wN w 1 → lyW w 64 (wN w (32 + 3 * p)) = L → ∀ e, rch w T S p i (wN w (32 + 3 * p + 2)) e → may w T Ht (wN w (32 + 3 * p)) i e → S (wN w (32 + 3 * p)) i e
def leanW (p : Nat) : Prop := 0 < wN w (32 + 3 * p + 2) ∧ w (eP p 0) = 1
end FNI
def cCn (x i : Nat) (I : am_I) : Nat := cntN (fun c => bI (I (x + 3) (25 * (c / 25) + i)) (c % 25)) 200
section FNQ
variable {d x : Nat} {P : am_O → Prop} {J : am_J} {Pf : am_R} {T : TX} {w : Nat → Int32} {r : Nat} {Q : Nat → Nat → Nat → Prop} {Ht : Nat → Nat → Nat → Nat}
theorem sc_addq (hp : am_PF Pf) (hx : am_SH[x]? = some (.inl 9)) (hx120 : 120 ≤ x) (hr : r = 16 ∨ r = 55) (hF : cFn Pf r) (hG : WG w) (hs : sndW w) {I : am_I} (hw : cG r I J w) (hly : nmR I (r + 19) (lyW w 64)) (h24 : T.1 ≤ 24) (hSol : Sol w T Q 0 Ht) {i L : Nat} (hi : i ≤ T.1) (hL : L < 100) (hQ : cQe x I w T.1 Q i) (hA : cAl w T Ht I L i) {S : Nat → Nat → Nat → Prop} (hS : pIv w T Ht x i L I S)
    (kk : ∀ I' S', pIv w T Ht x i L I' S' → (∀ t b e, S t b e → S' t b e) → (∀ q, q < wN w 2 → lyW w 64 (wN w (972 + 5 * q)) = L → ∀ e, Q q i e → may w T Ht (wN w (972 + 5 * q)) i e → S' (wN w (972 + 5 * q)) i e) → (∀ o k, ¬ (o = x + 3 ∧ ∃ t, t < 8 ∧ k = 25 * t + i) → I' o k = I o k) → P (.inl none, (am_SH, I', J, Pf), 0, 0)) : am_mth (d + 1) 12 [.ref 112, .ref x, .int (ni i), .int (ni L)] (am_SH, I, J, Pf) P := by
  have hrs := rul_sh hr
  have hrr : r ≤ 55 := by omega
  obtain ⟨-, -, ⟨w2, w2'⟩, -⟩ := id hG.1
  obtain ⟨⟨-, -, c2, -⟩, -, -, hQw, -⟩ := id hw
  have l7 := (lyW_least hG hs).2.2
  have LP : ∀ (m q : Nat) (I1 : am_I) (S1 : Nat → Nat → Nat → Prop) (l5 l6 : Option Value), wN w 2 - q = m → q ≤ wN w 2 → pIv w T Ht x i L I1 S1 → (∀ t b e, S t b e → S1 t b e) → (∀ q', q' < q → lyW w 64 (wN w (972 + 5 * q')) = L → ∀ e, Q q' i e → may w T Ht (wN w (972 + 5 * q')) i e → S1 (wN w (972 + 5 * q')) i e) → (∀ o k, ¬ (o = x + 3 ∧ ∃ t, t < 8 ∧ k = 25 * t + i) → I1 o k = I o k) → am_go none d 12 (3, [some (.ref 112), some (.ref x), some (.int (ni i)), some (.int (ni L)), some (.int (ni q)), l5, l6], [], (am_SH, I1, J, Pf), 0, 0) P := by
    intro m
    induction m with
    | zero =>
      intro q I1 S1 l5 l6 hm hq h1 h2 h3 hf
      have : q = wN w 2 := by omega
      subst this
      refine v12_3 hp hx ⟨r, hF.1, hrs, ?_⟩
      rw [hf r 9 (by omega), c2, w2, if_pos ((ni_le (by omega) (by omega)).mpr (Nat.le_refl _))]
      exact kk I1 S1 h1 h2 h3 hf
    | succ m ih =>
      intro q I1 S1 l5 l6 hm hq h1 h2 h3 hf
      obtain ⟨g1, g2, g3, g4⟩ := hG.qu (q := q) (by omega)
      obtain ⟨q1, q2, -⟩ := hQw q (by omega)
      have l7q := l7 (wN w (972 + 5 * q)) g1
      refine v12_3 hp hx ⟨r, hF.1, hrs, ?_⟩
      rw [hf r 9 (by omega), c2, w2, if_neg (fun z => absurd ((ni_le (by omega) (by omega)).mp z) (by omega)), show (25 : Int32) = ni 25 from rfl, ni_mul q 25, ni_add, show (ni q).toNatClampNeg = q from ni_nat (by omega), hf (r + 8) q (by omega), q1, g2, show (ni (wN w (972 + 5 * q))).toNatClampNeg = wN w (972 + 5 * q) from ni_nat (by omega), show (ni (q * 25 + i)).toNatClampNeg = 25 * q + i by rw [ni_nat (by omega)]; omega, hf (x + 4) _ (by omega), ni_p1]
      refine ⟨ni_in (by omega) (by omega), ni_in (by omega) (by omega), r + 15, hF.2, sor_sh hr, ni_in (by omega) (by omega), ?_⟩
      rw [show r + 15 + 4 = r + 19 from rfl, hf (r + 19) _ (by omega), hly _ g1]
      by_cases c : lyW w 64 (wN w (972 + 5 * q)) = L
      · rw [if_pos ((ni_inj (by omega) (by omega)).mpr c)]
        rcases hQ q (by omega) with ⟨e, e1, e2, e3, e4⟩ | ⟨e3, e4⟩
        · rw [e3, if_neg (ni_neg1 (by omega)), ni_mul, ni_add, show (ni (wN w (972 + 5 * q) * 25 + i)).toNatClampNeg = 25 * wN w (972 + 5 * q) + i by rw [ni_nat (by omega)]; omega, hf 115 _ (by omega)]
          generalize hss : wN w (972 + 5 * q) = s at *
          refine ⟨ni_in (by omega) (by omega), ni_in (by omega) (by omega), ni_in (by omega) (by omega), ih (q + 1) _ (fun t b y => S1 t b y ∨ (t = s ∧ b = i ∧ y = e ∧ may w T Ht s i y)) _ _ (by omega) (by omega) ⟨fun b b1 b2 t ht => ?_, fun t b y t8 b1 b2 b3 => ?_, fun t y t8 b1 b2 z => ?_, fun t y t8 tl b1 b2 z => Or.inl (h1.2.2.2 t y t8 tl b1 b2 z)⟩ (fun t b y z => Or.inl (h2 t b y z)) (fun q' hq' hl y z1 z2 => ?_) (fun o k ho => ?_)⟩
          · by_cases cc : 25 * t + b = 25 * s + i
            · have et : t = s := by omega
              have eb : b = i := by omega
              subst et; subst eb
              rw [am_u_same]
              refine (bts_or (h1.1 b b1 b2 t ht) (bts_and (bts_one (by omega)) (bts_self _))).of (fun j _ => ?_)
              constructor
              · rintro (⟨z1, z2, z3⟩ | ⟨z1, z2⟩)
                · exact ⟨z1, z2, Or.inl z3⟩
                · subst z1
                  exact ⟨e1, e2, Or.inr ⟨rfl, rfl, rfl, (hA t ht c j e1 e2).mp z2⟩⟩
              · rintro ⟨z1, z2, z3 | ⟨-, -, z4, z5⟩⟩
                · exact Or.inl ⟨z1, z2, z3⟩
                · exact Or.inr ⟨z4, (hA t ht c j z1 z2).mpr z5⟩
            · rw [am_u_nq (by omega)]
              refine (h1.1 b b1 b2 t ht).of (fun j _ => ?_)
              constructor
              · rintro ⟨z1, z2, z3⟩; exact ⟨z1, z2, Or.inl z3⟩
              · rintro ⟨z1, z2, z3 | ⟨y1, y2, -⟩⟩
                · exact ⟨z1, z2, z3⟩
                · rw [y1, y2] at cc; exact absurd rfl cc
          · rw [← h1.2.1 t b y t8 b1 b2 b3]
            exact ⟨fun z => z.elim id (fun z => absurd z.2.1 (by omega)), fun z => Or.inl z⟩
          · rcases z with z | ⟨y1, -, y2, y3⟩
            · exact h1.2.2.1 t y t8 b1 b2 z
            · subst y1; subst y2
              exact (sol_pos hSol t8 (Nat.zero_le _) b1 b2).mpr ⟨y3, Or.inl ⟨q, by omega, hss, (e4 y).mpr rfl⟩⟩
          · by_cases eq : q' = q
            · subst eq
              rw [hss] at z2 ⊢
              exact Or.inr ⟨rfl, rfl, (e4 y).mp z1, z2⟩
            · exact Or.inl (h3 q' (by omega) hl y z1 z2)
          · rw [am_u_nq (fun z => ho ⟨z.1, s, g1, z.2⟩)]
            exact hf o k ho
        · rw [e3, if_pos rfl]
          refine ih (q + 1) I1 S1 _ _ (by omega) (by omega) h1 h2 (fun q' hq' hl y z1 z2 => ?_) hf
          by_cases eq : q' = q
          · subst eq; exact absurd z1 (e4 y)
          · exact h3 q' (by omega) hl y z1 z2
      · rw [if_neg (fun z => c ((ni_inj (by omega) (by omega)).mp z))]
        refine ih (q + 1) I1 S1 _ _ (by omega) (by omega) h1 h2 (fun q' hq' hl y z1 z2 => ?_) hf
        by_cases eq : q' = q
        · subst eq; exact absurd hl c
        · exact h3 q' (by omega) hl y z1 z2
  refine am_mth_of rfl rfl (v12_0 hp hx ?_)
  rw [show (0 : Int32) = ni 0 from rfl]
  exact LP _ 0 I S _ _ rfl (Nat.zero_le _) hS (fun _ _ _ z => z) (fun q' h => absurd h (by omega)) (fun _ _ _ => rfl)
theorem cCn_le {i : Nat} {I : am_I} : cCn x i I ≤ 200 := cntN_le _ 200
theorem sc_addp (hp : am_PF Pf) (hx : am_SH[x]? = some (.inl 9)) (hx120 : 120 ≤ x) (hr : r = 16 ∨ r = 55) (hF : cFn Pf r) (hG : WG w) (hs : sndW w) {I : am_I} (hw : cG r I J w) (hc : clsR r I w) (hly : nmR I (r + 19) (lyW w 64)) (hT : cTx x I T) (hTo : txOK T) (hR : ∀ a, a ≤ T.1 → I (x + 2) a = ni (rnT w T a)) (hSol : Sol w T Q 0 Ht) {i L : Nat} (hi : i ≤ T.1) (hL : L < 100) (hA : cAl w T Ht I L i) {S : Nat → Nat → Nat → Prop} (hS : pIv w T Ht x i L I S)
    (kk : ∀ I' S', pIv w T Ht x i L I' S' → (∀ t b e, S t b e → S' t b e) → pCl w T Ht L i S' → (∀ o k, ¬ (o = x + 3 ∧ ∃ t, t < 8 ∧ k = 25 * t + i) → I' o k = I o k) → P (.inl none, (am_SH, I', J, Pf), 0, 0)) : am_mth (d + 4) 13 [.ref 112, .ref x, .int (ni i), .int (ni L)] (am_SH, I, J, Pf) P := by
  have h24 := hT.2.1
  have hrs := rul_sh hr
  have hrr : r ≤ 55 := by omega
  have hx3 := am_h9_3 hx
  obtain ⟨-, ⟨w1, w1'⟩, -⟩ := id hG.1
  obtain ⟨⟨-, c1, -⟩, -, hPw, -⟩ := id hw
  have l7 := (lyW_least hG hs).2.2
  have frS : ∀ (I1 : am_I), (∀ o k, ¬ (o = x + 3 ∧ ∃ t, t < 8 ∧ k = 25 * t + i) → I1 o k = I o k) → ∀ o k, o ≠ x + 3 → I1 o k = I o k := fun I1 hf o k e => hf o k (fun z => e z.1)
  -- one round's productions
  have LP : ∀ (m p x4 R : Nat) (I0 I1 : am_I) (S0 S1 : Nat → Nat → Nat → Prop) (l7 l8 l9 : Option Value), wN w 1 - p = m → p ≤ wN w 1 → R < 1000 → pIv w T Ht x i L I1 S1 → (∀ t b e, S0 t b e → S1 t b e) → (x4 < 2 ∧ cCn x i I0 ≤ cCn x i I1 ∧ (x4 = 0 → S1 = S0) ∧ (x4 = 1 → cCn x i I0 < cCn x i I1)) → (x4 = 0 → ∀ p', p' < p → lyW w 64 (wN w (32 + 3 * p')) = L → (R = 0 ∨ leanW w p') → ∀ e, rch w T S0 p' i (wN w (32 + 3 * p' + 2)) e → may w T Ht (wN w (32 + 3 * p')) i e → S0 (wN w (32 + 3 * p')) i e) → (R = 0 → ∀ p', p' < p → lyW w 64 (wN w (32 + 3 * p')) = L → ¬ leanW w p' → ∀ e, rch w T (pos Ht) p' i (wN w (32 + 3 * p' + 2)) e → may w T Ht (wN w (32 + 3 * p')) i e → S1 (wN w (32 + 3 * p')) i e) → (∀ o k, ¬ (o = x + 3 ∧ ∃ t, t < 8 ∧ k = 25 * t + i) → I1 o k = I o k) →
      (∀ I' S' x' l6 l7 l8 l9, pIv w T Ht x i L I' S' → (∀ t b e, S0 t b e → S' t b e) → (x' < 2 ∧ cCn x i I0 ≤ cCn x i I' ∧ (x' = 0 → S' = S0) ∧ (x' = 1 → cCn x i I0 < cCn x i I')) → (x' = 0 → ∀ p', p' < wN w 1 → lyW w 64 (wN w (32 + 3 * p')) = L → (R = 0 ∨ leanW w p') → ∀ e, rch w T S0 p' i (wN w (32 + 3 * p' + 2)) e → may w T Ht (wN w (32 + 3 * p')) i e → S0 (wN w (32 + 3 * p')) i e) → (R = 0 → ∀ p', p' < wN w 1 → lyW w 64 (wN w (32 + 3 * p')) = L → ¬ leanW w p' → ∀ e, rch w T (pos Ht) p' i (wN w (32 + 3 * p' + 2)) e → may w T Ht (wN w (32 + 3 * p')) i e → S' (wN w (32 + 3 * p')) i e) → (∀ o k, ¬ (o = x + 3 ∧ ∃ t, t < 8 ∧ k = 25 * t + i) → I' o k = I o k) → am_go none (d + 3) 13 (6, [some (.ref 112), some (.ref x), some (.int (ni i)), some (.int (ni L)), some (.int (ni x')), some (.int (ni (R + 1))), l6, l7, l8, l9], [], (am_SH, I', J, Pf), 0, 0) P) →
      am_go none (d + 3) 13 (25, [some (.ref 112), some (.ref x), some (.int (ni i)), some (.int (ni L)), some (.int (ni x4)), some (.int (ni R)), some (.int (ni p)), l7, l8, l9], [], (am_SH, I1, J, Pf), 0, 0) P := by
    intro m
    induction m with
    | zero =>
      intro p x4 R I0 I1 S0 S1 l7 l8 l9 hm hpp hR1 h1 h2 h3 h4 h5 hf kk
      have : p = wN w 1 := by omega
      subst this
      refine v13_25 hp hx ⟨r, hF.1, hrs, ?_⟩
      rw [hf r 2 (by omega), c1, w1, if_pos ((ni_le (by omega) (by omega)).mpr (Nat.le_refl _)), ni_p1]
      exact kk I1 S1 x4 _ _ _ _ h1 h2 h3 h4 h5 hf
    | succ m ih =>
      intro p x4 R I0 I1 S0 S1 l7' l8 l9 hm hpp hR1 h1 h2 h3 h4 h5 hf kk
      obtain ⟨g1, g2, g3, g4, g5, g6⟩ := hG.pr (p := p) (by omega)
      obtain ⟨q1, q2, q3, q4⟩ := hPw p (by omega)
      have l7p := l7 (wN w (32 + 3 * p)) g1
      have ep : (ni p).toNatClampNeg = p := ni_nat (by omega)
      have hln : leanW w p ↔ (0 < wN w (32 + 3 * p + 2) ∧ w (eP p 0) = 1) := Iff.rfl
      -- passed over
      have skip : ∀ l7 l8 l9, (lyW w 64 (wN w (32 + 3 * p)) = L → R ≠ 0 ∧ ¬ leanW w p) → am_go none (d + 3) 13 (25, [some (.ref 112), some (.ref x), some (.int (ni i)), some (.int (ni L)), some (.int (ni x4)), some (.int (ni R)), some (.int (ni (p + 1))), l7, l8, l9], [], (am_SH, I1, J, Pf), 0, 0) P := by
        intro l7 l8 l9 hsk
        refine ih (p + 1) x4 R I0 I1 S0 S1 l7 l8 l9 (by omega) (by omega) hR1 h1 h2 h3 (fun e p' b1 b2 b3 => ?_) (fun e p' b1 b2 b3 => ?_) hf kk
        · by_cases ee : p' = p
          · subst ee
            have := hsk b2
            exact absurd b3 (fun z => z.elim this.1 this.2)
          · exact h4 e p' (by omega) b2 b3
        · by_cases ee : p' = p
          · subst ee; exact absurd e (hsk b2).1
          · exact h5 e p' (by omega) b2 b3
      -- done
      have work : lyW w 64 (wN w (32 + 3 * p)) = L → (R = 0 ∨ leanW w p) → ∀ l8 l9, am_go none (d + 3) 13 (80, [some (.ref 112), some (.ref x), some (.int (ni i)), some (.int (ni L)), some (.int (ni x4)), some (.int (ni R)), some (.int (ni p)), some (.int (ni (wN w (32 + 3 * p)))), l8, l9], [], (am_SH, I1, J, Pf), 0, 0) P := by
        intro hl hRl l8 l9
        have hf' := frS I1 hf
        refine v13_80 hp hx ?_
        rw [show (25 : Int32) = ni 25 from rfl, ni_mul, ni_add]
        refine sc_reach (d := d + 1) hp hx hr hF hG (hw.of (fun o k _ _ => hf' o k (by omega)) (fun _ _ => rfl)) (fun c b1 t b2 => by rw [hf' (r + 22) _ (by omega)]; exact hc c b1 t b2) ⟨by rw [hf' x 1 (by omega)]; exact hT.1, h24, fun j hj => by rw [hf' (x + 1) j (by omega)]; exact hT.2.2 j hj⟩ hTo (fun a ha => by rw [hf' (x + 2) a (by omega)]; exact hR a ha) hx3 (by omega) (by omega) hi (fun k _ _ b b1 b2 => h1.1 b b1 b2) (fun u hu => am_back (v13_101 hp hx ?_))
        generalize hss : wN w (32 + 3 * p) = s at *
        rw [show (ni s).toNatClampNeg = s from ni_nat (by omega), show (ni (s * 25 + i)).toNatClampNeg = 25 * s + i by rw [ni_nat (by omega)]; omega, hf' 115 s (by omega), ni_p1]
        have hal : ∀ j, j < 32 → rch w T S1 p i (wN w (32 + 3 * p + 2)) j → (bI (I 115 s) j = true ↔ may w T Ht s i j) := fun j _ z => by
          have := rch_le hG hi _ _ z
          exact hA s g1 hl j this.1 this.2
        have hrow := h1.1 i (Nat.le_refl _) hi s g1
        have hfr : bts ((u &&& I 115 s) &&& (I1 (x + 3) (25 * s + i) ^^^ (-1))) (fun j => (rch w T S1 p i (wN w (32 + 3 * p + 2)) j ∧ may w T Ht s i j) ∧ ¬ S1 s i j) := (bts_and (bts_and hu (bts_self _)) (bts_not hrow)).of (fun j hj => by
          constructor
          · rintro ⟨⟨z1, z2⟩, z3⟩
            have := rch_le hG hi _ _ z1
            exact ⟨⟨z1, (hal j hj z1).mp z2⟩, fun z => z3 ⟨this.1, this.2, z⟩⟩
          · rintro ⟨⟨z1, z2⟩, z3⟩
            exact ⟨⟨z1, (hal j hj z1).mpr z2⟩, fun z => z3 z.2.2⟩)
        refine ⟨ni_in (by omega) (by omega), ni_in (by omega) (by omega), ni_in (by omega) (by omega), ni_in (by omega) (by omega), ?_⟩
        have hrowN : bts (I1 (x + 3) (25 * s + i) ||| ((u &&& I 115 s) &&& (I1 (x + 3) (25 * s + i) ^^^ (-1)))) (fun j => i ≤ j ∧ j ≤ T.1 ∧ (S1 s i j ∨ (rch w T S1 p i (wN w (32 + 3 * p + 2)) j ∧ may w T Ht s i j))) := (bts_or hrow hfr).of (fun j _ => by
          constructor
          · rintro (⟨z1, z2, z3⟩ | ⟨z1, z2⟩)
            · exact ⟨z1, z2, Or.inl z3⟩
            · have := rch_le hG hi _ _ z1.1
              exact ⟨this.1, this.2, Or.inr z1⟩
          · rintro ⟨z1, z2, z3⟩
            by_cases c : S1 s i j
            · exact Or.inl ⟨z1, z2, c⟩
            · rcases z3 with z | z
              · exact absurd z c
              · exact Or.inr ⟨z, c⟩)
        generalize hfx : (u &&& I 115 s) &&& (I1 (x + 3) (25 * s + i) ^^^ (-1)) = fr at *
        by_cases c0 : fr = 0
        · have hno := (bts_z hfr).mp c0
          have hcl : ∀ e, rch w T S1 p i (wN w (32 + 3 * p + 2)) e → may w T Ht s i e → S1 s i e := fun e z1 z2 => by
            have := rch_le hG hi _ _ z1
            exact Classical.byContradiction (fun z => hno e (by omega) ⟨⟨z1, z2⟩, z⟩)
          rw [if_pos c0]
          have e0 : am_u I1 (x + 3) (25 * s + i) (I1 (x + 3) (25 * s + i) ||| fr) = I1 := am_u_self (by rw [c0]; exact Int32.or_zero.symm)
          rw [e0]
          refine ih (p + 1) x4 R I0 I1 S0 S1 _ _ _ (by omega) (by omega) hR1 h1 h2 h3 (fun e p' b1 b2 b3 y z1 z2 => ?_) (fun e p' b1 b2 b3 y z1 z2 => ?_) hf kk
          · by_cases ee : p' = p
            · subst ee
              rw [hss] at z2 ⊢
              have hS10 := h3.2.2.1 e
              rw [hS10] at hcl
              exact hcl y z1 z2
            · exact h4 e p' (by omega) b2 b3 y z1 z2
          · by_cases ee : p' = p
            · subst ee
              rw [hss] at z2 ⊢
              exact hcl y (rch_nl hG (by omega) hi b3 (fun k hk ek b e b1 b2 b4 z => (h1.2.1 _ b e (WG.so (g6 k hk) ek).1 b1 b2 b4).mpr z) _ _ (Nat.le_refl _) z1).1 z2
            · exact h5 e p' (by omega) b2 b3 y z1 z2
        · rw [if_neg c0]
          obtain ⟨j0, hj0, hj1⟩ : ∃ j, j < 32 ∧ ((rch w T S1 p i (wN w (32 + 3 * p + 2)) j ∧ may w T Ht s i j) ∧ ¬ S1 s i j) := Classical.byContradiction (fun z => c0 ((bts_z hfr).mpr (fun j hj y => z ⟨j, hj, y⟩)))
          have hj2 := rch_le hG hi _ _ hj1.1.1
          rw [show (1 : Int32) = ni 1 from rfl]
          have hcn : cCn x i I1 < cCn x i (am_u I1 (x + 3) (25 * s + i) (I1 (x + 3) (25 * s + i) ||| fr)) := by
            refine cntN_lt 200 (fun c hc z => ?_) ⟨25 * s + j0, by omega, ?_, ?_⟩
            · by_cases cc : 25 * (c / 25) + i = 25 * s + i
              · rw [cc, am_u_same, bI_or, ← cc, z, Bool.true_or]
              · rw [am_u_nq (by omega)]; exact z
            · rw [show (25 * s + j0) / 25 = s by omega, show (25 * s + j0) % 25 = j0 by omega]
              cases e : bI (I1 (x + 3) (25 * s + i)) j0 with
              | false => rfl
              | true => exact absurd ((hrow j0 hj0).mp e).2.2 hj1.2
            · rw [show (25 * s + j0) / 25 = s by omega, show (25 * s + j0) % 25 = j0 by omega, am_u_same]
              exact (hrowN j0 hj0).mpr ⟨hj2.1, hj2.2, Or.inr hj1.1⟩
          refine ih (p + 1) 1 R I0 _ S0 (fun t b y => S1 t b y ∨ (t = s ∧ b = i ∧ rch w T S1 p i (wN w (32 + 3 * p + 2)) y ∧ may w T Ht s i y)) _ _ _ (by omega) (by omega) hR1 ⟨fun b b1 b2 t ht => ?_, fun t b y t8 b1 b2 b3 => ?_, fun t y t8 b1 b2 z => ?_, fun t y t8 tl b1 b2 z => Or.inl (h1.2.2.2 t y t8 tl b1 b2 z)⟩ (fun t b y z => Or.inl (h2 t b y z)) ⟨by omega, by omega, fun z => absurd z (by omega), fun _ => by omega⟩ (fun z => absurd z (by omega)) (fun e p' b1 b2 b3 y z1 z2 => ?_) (fun o k ho => ?_) kk
          · by_cases cc : 25 * t + b = 25 * s + i
            · have et : t = s := by omega
              have eb : b = i := by omega
              subst et; subst eb
              rw [am_u_same]
              refine hrowN.of (fun j _ => ?_)
              constructor
              · rintro ⟨z1, z2, z3 | z3⟩
                · exact ⟨z1, z2, Or.inl z3⟩
                · exact ⟨z1, z2, Or.inr ⟨rfl, rfl, z3⟩⟩
              · rintro ⟨z1, z2, z3 | ⟨-, -, z4⟩⟩
                · exact ⟨z1, z2, Or.inl z3⟩
                · exact ⟨z1, z2, Or.inr z4⟩
            · rw [am_u_nq (by omega)]
              refine (h1.1 b b1 b2 t ht).of (fun j _ => ?_)
              constructor
              · rintro ⟨z1, z2, z3⟩; exact ⟨z1, z2, Or.inl z3⟩
              · rintro ⟨z1, z2, z3 | ⟨y1, y2, -⟩⟩
                · exact ⟨z1, z2, z3⟩
                · rw [y1, y2] at cc; exact absurd rfl cc
          · rw [← h1.2.1 t b y t8 b1 b2 b3]
            exact ⟨fun z => z.elim id (fun z => absurd z.2.1 (by omega)), fun z => Or.inl z⟩
          · rcases z with z | ⟨y1, -, y2, y3⟩
            · exact h1.2.2.1 t y t8 b1 b2 z
            · subst y1
              refine (sol_pos hSol t8 (Nat.zero_le _) b1 b2).mpr ⟨y3, Or.inr ⟨p, by omega, hss, rch_tr hG txQ.rfl' (by omega) (Nat.zero_le _) hi (fun k hk ek b e b1 b2 b3 z => ?_) _ _ (Nat.le_refl _) y2⟩⟩
              have u8 := (WG.so (g6 k hk) ek).1
              by_cases eb : b = i
              · subst eb; exact h1.2.2.1 _ e u8 b2 b3 z
              · exact (h1.2.1 _ b e u8 (by omega) b2 b3).mp z
          · by_cases ee : p' = p
            · subst ee
              rw [hss] at z2 ⊢
              exact Or.inr ⟨rfl, rfl, (rch_nl hG (by omega) hi b3 (fun k hk ek b e b1 b2 b4 z => (h1.2.1 _ b e (WG.so (g6 k hk) ek).1 b1 b2 b4).mpr z) _ _ (Nat.le_refl _) z1).1, z2⟩
            · exact Or.inl (h5 e p' (by omega) b2 b3 y z1 z2)
          · rw [am_u_nq (fun z => ho ⟨z.1, s, g1, z.2⟩)]
            exact hf o k ho
      refine v13_25 hp hx ⟨r, hF.1, hrs, ?_⟩
      rw [hf r 2 (by omega), c1, w1, if_neg (fun z => absurd ((ni_le (by omega) (by omega)).mp z) (by omega)), ep, hf (r + 2) p (by omega), q1, g2, show (ni (wN w (32 + 3 * p))).toNatClampNeg = wN w (32 + 3 * p) from ni_nat (by omega), ni_p1]
      refine ⟨ni_in (by omega) (by omega), r + 15, hF.2, sor_sh hr, ni_in (by omega) (by omega), ?_⟩
      rw [show r + 15 + 4 = r + 19 from rfl, hf (r + 19) _ (by omega), hly _ g1]
      by_cases c : lyW w 64 (wN w (32 + 3 * p)) = L
      · rw [if_pos ((ni_inj (by omega) (by omega)).mpr c)]
        by_cases cR : R = 0
        · rw [if_pos ((lle 0 (by omega) (by omega)).mpr (by omega))]
          exact work c (Or.inl cR) _ _
        · rw [if_neg (fun z => absurd ((lle 0 (by omega) (by omega)).mp z) (by omega)), hf (r + 4) p (by omega), q3, g4]
          refine ⟨ni_in (by omega) (by omega), ?_⟩
          by_cases cn : wN w (32 + 3 * p + 2) = 0
          · rw [if_pos ((lle 0 (by omega) (by omega)).mpr (by omega))]
            exact skip _ _ _ (fun _ => ⟨cR, fun z => by have := (hln.mp z).1; omega⟩)
          · rw [if_neg (fun z => absurd ((lle 0 (by omega) (by omega)).mp z) (by omega)), show (4 : Int32) = ni 4 from rfl, ni_mul, show (ni (p * 4)).toNatClampNeg = 4 * p + 0 by rw [ni_nat (by omega)]; omega, hf (r + 5) _ (by omega), (q4 0 (by omega)).1]
            refine ⟨ni_in (by omega) (by omega), ?_⟩
            by_cases ck : w (eP p 0) = 1
            · rw [if_pos ck]
              exact work c (Or.inr ⟨by omega, ck⟩) _ _
            · rw [if_neg ck]
              exact skip _ _ _ (fun _ => ⟨cR, fun z => ck z.2⟩)
      · rw [if_neg (fun z => c ((ni_inj (by omega) (by omega)).mp z))]
        exact skip _ _ _ (fun z => absurd z c)
  have LR : ∀ (m R x4 : Nat) (I1 : am_I) (S1 : Nat → Nat → Nat → Prop) (l6 l7 l8 l9 : Option Value), 201 - R = m → R ≤ 201 → pIv w T Ht x i L I1 S1 → (∀ t b e, S t b e → S1 t b e) → ((x4 = 0 ∧ pCl w T Ht L i S1) ∨ (x4 = 1 ∧ R ≤ cCn x i I1)) → (1 ≤ R → ∀ p', p' < wN w 1 → lyW w 64 (wN w (32 + 3 * p')) = L → ¬ leanW w p' → ∀ e, rch w T (pos Ht) p' i (wN w (32 + 3 * p' + 2)) e → may w T Ht (wN w (32 + 3 * p')) i e → S1 (wN w (32 + 3 * p')) i e) → (∀ o k, ¬ (o = x + 3 ∧ ∃ t, t < 8 ∧ k = 25 * t + i) → I1 o k = I o k) → am_go none (d + 3) 13 (6, [some (.ref 112), some (.ref x), some (.int (ni i)), some (.int (ni L)), some (.int (ni x4)), some (.int (ni R)), l6, l7, l8, l9], [], (am_SH, I1, J, Pf), 0, 0) P := by
    intro m
    induction m with
    | zero =>
      intro R x4 I1 S1 l6 l7 l8 l9 hm hR2 h1 h2 h3 h4 hf
      have : R = 201 := by omega
      subst this
      refine v13_6 hp hx ?_
      rw [if_pos ((glt 200 (by omega) (by omega)).mpr (by omega))]
      rcases h3 with z | z
      · exact kk I1 S1 h1 h2 z.2 hf
      · have := cCn_le (x := x) (i := i) (I := I1); omega
    | succ m ih =>
      intro R x4 I1 S1 l6 l7 l8 l9 hm hR2 h1 h2 h3 h4 hf
      refine v13_6 hp hx ?_
      rw [if_neg (fun z => absurd ((glt 200 (by omega) (by omega)).mp z) (by omega))]
      rcases h3 with ⟨rfl, z⟩ | ⟨rfl, z⟩
      · rw [if_pos (show ni 0 = 0 from rfl)]
        exact kk I1 S1 h1 h2 z hf
      · rw [if_neg (by decide), show (0 : Int32) = ni 0 from rfl]
        refine LP _ 0 0 R I1 I1 S1 S1 _ _ _ rfl (Nat.zero_le _) (by omega) h1 (fun _ _ _ z => z) ⟨by omega, Nat.le_refl _, fun _ => rfl, fun z => absurd z (by omega)⟩ (fun _ p' b1 => absurd b1 (by omega)) (fun _ p' b1 => absurd b1 (by omega)) hf (fun I' S' x' l6 l7 l8 l9 a1 a2 a3 a4 a5 a6 => ih (R + 1) x' I' S' l6 l7 l8 l9 (by omega) (by omega) a1 (fun t b e z => a2 t b e (h2 t b e z)) ?_ (fun _ => ?_) a6)
        · have hNL : ∀ p', p' < wN w 1 → lyW w 64 (wN w (32 + 3 * p')) = L → ¬ leanW w p' → ∀ e, rch w T (pos Ht) p' i (wN w (32 + 3 * p' + 2)) e → may w T Ht (wN w (32 + 3 * p')) i e → S' (wN w (32 + 3 * p')) i e := by
            intro p' b1 b2 b3 e b4 b5
            by_cases cR : R = 0
            · exact a5 cR p' b1 b2 b3 e b4 b5
            · exact a2 _ _ _ (h4 (by omega) p' b1 b2 b3 e b4 b5)
          have hx' := a3.1
          by_cases cx : x' = 0
          · refine Or.inl ⟨cx, fun p b1 b2 e b3 b4 => ?_⟩
            have hSS := a3.2.2.1 cx
            by_cases cl : leanW w p
            · rw [hSS] at b3 ⊢
              exact a4 cx p b1 b2 (Or.inr cl) e b3 b4
            · refine hNL p b1 b2 cl e (rch_tr hG txQ.rfl' b1 (Nat.zero_le _) hi (fun k hk ek b y c1 c2 c3 zz => ?_) _ _ (Nat.le_refl _) b3) b4
              have u8 := (WG.so ((hG.pr b1).2.2.2.2.2 k hk) ek).1
              by_cases eb : b = i
              · rw [eb] at zz c2 ⊢; exact a1.2.2.1 _ y u8 c2 c3 zz
              · exact (a1.2.1 _ b y u8 (by omega) c2 c3).mp zz
          · refine Or.inr ⟨by omega, ?_⟩
            have := a3.2.2.2 (by omega)
            omega
        · intro p' b1 b2 b3 e b4 b5
          by_cases cR : R = 0
          · exact a5 cR p' b1 b2 b3 e b4 b5
          · exact a2 _ _ _ (h4 (by omega) p' b1 b2 b3 e b4 b5)
  refine am_mth_of rfl rfl (v13_0 hp hx ?_)
  rw [show (0 : Int32) = ni 0 from rfl, show (1 : Int32) = ni 1 from rfl]
  exact LR _ 0 1 I S _ _ _ _ rfl (by omega) hS (fun _ _ _ z => z) (Or.inr ⟨rfl, Nat.zero_le _⟩) (fun z => absurd z (by omega)) (fun _ _ _ => rfl)
end FNQ
