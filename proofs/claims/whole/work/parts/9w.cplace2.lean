/-! The class's finder: all layers at one place -/
theorem mxL_ge {v : Nat → Nat} : ∀ m s, s < m → v s ≤ mxL v m
  | 0, s, h => absurd h (by omega)
  | m + 1, s, h => by
    have e9 : mxL v (m + 1) = if mxL v m < v m then v m else mxL v m := rfl
    rw [e9]
    by_cases c : s = m
    · subst c; split <;> omega
    · have := mxL_ge (v := v) m s (by omega)
      split <;> omega
theorem mxL_le {v : Nat → Nat} {M : Nat} : ∀ m, (∀ s, s < m → v s ≤ M) → mxL v m ≤ M
  | 0, _ => Nat.zero_le _
  | m + 1, h => by
    have e9 : mxL v (m + 1) = if mxL v m < v m then v m else mxL v m := rfl
    rw [e9]
    have a := mxL_le (v := v) (M := M) m (fun s hs => h s (by omega))
    have b := h m (by omega)
    split <;> omega
section FNR
variable {d x : Nat} {P : am_O → Prop} {J : am_J} {Pf : am_R} {T : TX} {w : Nat → Int32} {r : Nat} {Q : Nat → Nat → Nat → Prop} {Ht : Nat → Nat → Nat → Nat}
/-- a layer that is closed is all -/
theorem pIv.up (hG : WG w) (hs : sndW w) (hSol : Sol w T Q 0 Ht) {i L : Nat} (hi : i ≤ T.1) {I : am_I} {S : Nat → Nat → Nat → Prop} (h : pIv w T Ht x i L I S) (hq : ∀ q, q < wN w 2 → lyW w 64 (wN w (972 + 5 * q)) = L → ∀ e, Q q i e → may w T Ht (wN w (972 + 5 * q)) i e → S (wN w (972 + 5 * q)) i e) (hp : pCl w T Ht L i S) : pIv w T Ht x i (L + 1) I S := by
  obtain ⟨ly1, -, -⟩ := lyW_least hG hs
  refine ⟨h.1, h.2.1, h.2.2.1, ?_⟩
  have key : ∀ k t e, t < 8 → lyW w 64 t = L → i ≤ e → e ≤ T.1 → lo Ht k t i e → S t i e := by
    intro k
    induction k with
    | zero => intro t e _ _ _ _ z; unfold lo at z; omega
    | succ k ih =>
      intro t e t8 tl b1 b2 z
      obtain ⟨z1, z2⟩ := (hSol t i e t8 (Nat.zero_le _) b1 b2 k).mp z
      rcases z2 with ⟨q, q1, q2, q3⟩ | ⟨p, p1, p2, p3⟩
      · rw [← q2] at tl z1 ⊢
        exact hq q q1 tl e q3 z1
      · rw [← p2] at tl z1 ⊢
        refine hp p p1 tl e (rch_tr hG txQ.rfl' p1 (Nat.zero_le _) hi (fun k' hk ek b y c1 c2 c3 zz => ?_) _ _ (Nat.le_refl _) p3) z1
        have u8 := (WG.so ((hG.pr p1).2.2.2.2.2 k' hk) ek).1
        by_cases eb : b = i
        · rw [eb] at zz c2 ⊢
          have := (ly1 _ _ (by omega) u8).1 (use_pr p1 hk ek)
          by_cases cl : lyW w 64 (wN w (eP p k' + 1)) = L
          · exact ih _ y u8 cl c2 c3 zz
          · exact h.2.2.2 _ y u8 (by omega) c2 c3 zz.1
        · exact (h.2.1 _ b y u8 (by omega) c2 c3).mpr zz.1
  intro t e t8 tl b1 b2 z
  by_cases c : lyW w 64 t = L
  · exact key (Ht t i e) t e t8 c b1 b2 ⟨z, Nat.le_refl _⟩
  · exact h.2.2.2 t e t8 (by omega) b1 b2 z
theorem sc_place (hp : am_PF Pf) (hx : am_SH[x]? = some (.inl 9)) (hx120 : 120 ≤ x) (hr : r = 16 ∨ r = 55) (hF : cFn Pf r) (hG : WG w) (hs : sndW w) {I : am_I} (hw : cG r I J w) (hc : clsR r I w) (hly : nmR I (r + 19) (lyW w 64)) (htop : I (r + 15) 4 = ni (mxL (lyW w 64) 8)) (hdr : btR I (r + 17) (drpW w)) (hT : cTx x I T) (hTo : txOK T) (hR : ∀ a, a ≤ T.1 → I (x + 2) a = ni (rnT w T a)) (hB : cBr I w T) (hSol : Sol w T Q 0 Ht) {i : Nat} (hi : i ≤ T.1) (hQ : cQe x I w T.1 Q i) (hb : ∀ b, i < b → b ≤ T.1 → cRw (x + 3) I T.1 (pos Ht) b)
    (kk : ∀ I', (∀ b, i ≤ b → b ≤ T.1 → cRw (x + 3) I' T.1 (pos Ht) b) → cPf x i I I' → P (.inl none, (am_SH, I', J, Pf), 0, 0)) : am_mth (d + 5) 10 [.ref 112, .ref x, .int (ni i)] (am_SH, I, J, Pf) P := by
  have h24 := hT.2.1
  have hrs := rul_sh hr
  have hrr : r ≤ 55 := by omega
  have l7 := (lyW_least hG hs).2.2
  have htop7 : mxL (lyW w 64) 8 ≤ 7 := mxL_le 8 l7
  have stay : ∀ I1, cPf x i I I1 → cG r I1 J w ∧ clsR r I1 w ∧ nmR I1 (r + 19) (lyW w 64) ∧ I1 (r + 15) 4 = ni (mxL (lyW w 64) 8) ∧ btR I1 (r + 17) (drpW w) ∧ cTx x I1 T ∧ (∀ a, a ≤ T.1 → I1 (x + 2) a = ni (rnT w T a)) ∧ cBr I1 w T ∧ cQe x I1 w T.1 Q i := by
    intro I1 hf
    have e : ∀ o k, o ≠ x + 3 → o ≠ 115 → I1 o k = I o k := fun o k e1 e2 => hf o k (fun z => e1 z.1) e2
    refine ⟨hw.of (fun o k _ _ => e o k (by omega) (by omega)) (fun _ _ => rfl), fun c b1 t b2 => by rw [e _ _ (by omega) (by omega)]; exact hc c b1 t b2, fun s h8 => by rw [e _ _ (by omega) (by omega)]; exact hly s h8, by rw [e _ _ (by omega) (by omega)]; exact htop, fun s h8 t ht => by rw [e _ _ (by omega) (by omega)]; exact hdr s h8 t ht, ⟨by rw [e _ _ (by omega) (by omega)]; exact hT.1, h24, fun j hj => by rw [e _ _ (by omega) (by omega)]; exact hT.2.2 j hj⟩, fun a ha => by rw [e _ _ (by omega) (by omega)]; exact hR a ha, fun s h8 => by rw [e _ _ (by omega) (by omega)]; exact hB s h8, fun q hq => ?_⟩
    rw [e _ _ (by omega) (by omega)]
    exact hQ q hq
  have LL : ∀ (m L : Nat) (I1 : am_I) (S1 : Nat → Nat → Nat → Prop) (l4 : Option Value), mxL (lyW w 64) 8 + 1 - L = m → L ≤ mxL (lyW w 64) 8 + 1 → pIv w T Ht x i L I1 S1 → cPf x i I I1 → am_go none (d + 4) 10 (28, [some (.ref 112), some (.ref x), some (.int (ni i)), some (.int (ni L)), l4], [], (am_SH, I1, J, Pf), 0, 0) P := by
    intro m
    induction m with
    | zero =>
      intro L I1 S1 l4 hm hL h1 hf
      have : L = mxL (lyW w 64) 8 + 1 := by omega
      subst this
      have st := stay I1 hf
      refine v10_28 hp hx ⟨r + 15, hF.2, sor_sh hr, ?_⟩
      rw [st.2.2.2.1, if_pos ((ni_lt (by omega) (by omega)).mpr (by omega))]
      refine kk I1 (fun b b1 b2 t t8 => (h1.1 b b1 b2 t t8).of (fun e _ => ?_)) hf
      have lt := mxL_ge (v := lyW w 64) 8 t t8
      constructor
      · rintro ⟨z1, z2, z3⟩
        refine ⟨z1, z2, ?_⟩
        by_cases eb : b = i
        · subst eb; exact h1.2.2.1 t e t8 z1 z2 z3
        · exact (h1.2.1 t b e t8 (by omega) z1 z2).mp z3
      · rintro ⟨z1, z2, z3⟩
        refine ⟨z1, z2, ?_⟩
        by_cases eb : b = i
        · subst eb; exact h1.2.2.2 t e t8 (by omega) z1 z2 z3
        · exact (h1.2.1 t b e t8 (by omega) z1 z2).mpr z3
    | succ m ih =>
      intro L I1 S1 l4 hm hL h1 hf
      have st := stay I1 hf
      -- which ends are allowed
      have LA : ∀ (m c : Nat) (I2 : am_I), 8 - c = m → c ≤ 8 → pIv w T Ht x i L I2 S1 → cPf x i I I2 → (∀ s, s < c → lyW w 64 s = L → ∀ j, i ≤ j → j ≤ T.1 → (bI (I2 115 s) j = true ↔ may w T Ht s i j)) → am_go none (d + 4) 10 (42, [some (.ref 112), some (.ref x), some (.int (ni i)), some (.int (ni L)), some (.int (ni c))], [], (am_SH, I2, J, Pf), 0, 0) P := by
        intro m2
        induction m2 with
        | zero =>
          intro c I2 hm2 hc2 h2 f2 ha
          have : c = 8 := by omega
          subst this
          have st2 := stay I2 f2
          refine v10_42 hp hx ?_
          rw [if_pos ((gle 8 (by omega) (by omega)).mpr (by omega))]
          refine sc_addq (d := d + 3) hp hx hx120 hr hF hG hs st2.1 st2.2.2.1 h24 hSol hi (by omega) st2.2.2.2.2.2.2.2.2 (fun s h8 hl j b1 b2 => ha s h8 hl j b1 b2) h2 (fun I3 S3 a1 a2 a3 a4 => am_back (v10_101 hp hx ?_))
          have f3 : cPf x i I I3 := f2.trans (fun o k e1 e2 => a4 o k e1)
          have st3 := stay I3 f3
          refine sc_addp (d := d) hp hx hx120 hr hF hG hs st3.1 st3.2.1 st3.2.2.1 st3.2.2.2.2.2.1 hTo st3.2.2.2.2.2.2.1 hSol hi (by omega) (fun s h8 hl j b1 b2 => by rw [a4 115 s (by omega)]; exact ha s h8 hl j b1 b2) a1 (fun I4 S4 b1 b2 b3 b4 => am_back (v10_108 hp hx ?_))
          rw [ni_p1]
          exact ih (L + 1) I4 S4 _ (by omega) (by omega) (b1.up hG hs hSol hi (fun q q1 q2 e q3 q4 => b2 _ _ _ (a3 q q1 q2 e q3 q4)) b3) (f3.trans (fun o k e1 e2 => b4 o k e1))
        | succ m2 ihm =>
          intro c I2 hm2 hc2 h2 f2 ha
          have st2 := stay I2 f2
          have l7c := l7 c (by omega)
          refine v10_42 hp hx ?_
          rw [if_neg (fun z => absurd ((gle 8 (by omega) (by omega)).mp z) (by omega)), show (ni c).toNatClampNeg = c from ni_nat (by omega)]
          refine ⟨r + 15, hF.2, sor_sh hr, ni_in (by omega) (by omega), ?_⟩
          rw [show r + 15 + 4 = r + 19 from rfl, st2.2.2.1 c (by omega), ni_p1]
          by_cases cl : lyW w 64 c = L
          · rw [if_pos ((ni_inj (by omega) (by omega)).mpr cl)]
            refine ⟨ni_in (by omega) (by omega), sc_dropped (d := d + 3) hp hx hr hF hG st2.2.2.2.2.1 (by omega) (by omega) (h2.1 i (Nat.le_refl _) hi) (fun u hu => am_back (v10_84 hp hx ?_))⟩
            rw [show (ni c).toNatClampNeg = c from ni_nat (by omega), ni_p1]
            refine ⟨ni_in (by omega) (by omega), ihm (c + 1) _ (by omega) (by omega) ⟨fun b b1 b2 t ht => by rw [am_u_nq (by omega)]; exact h2.1 b b1 b2 t ht, h2.2⟩ (fun o k e1 e2 => (am_u_nq (by omega)).trans (f2 o k e1 e2)) (fun s hs2 hl j b1 b2 => ?_)⟩
            by_cases es : s = c
            · subst es
              rw [am_u_same]
              have := bts_not (bts_or (st2.2.2.2.2.2.2.2.1 s (by omega)) hu) j (by omega)
              rw [this]
              unfold may
              rw [nBar_bar]
              constructor
              · intro z
                refine ⟨fun y => z (Or.inl y), fun t ht => ?_⟩
                have t8 := drp_lt hG ht
                have := ((lyW_least hG hs).1 s t (by omega) t8.2).2 ht
                by_cases c0 : Ht t i j = 0
                · exact c0
                · exact absurd (Or.inr ⟨t, ht, b1, b2, h2.2.2.2 t j t8.2 (by omega) b1 b2 (Nat.pos_of_ne_zero c0)⟩) z
              · rintro ⟨z1, z2⟩ (y | ⟨t, ht, -, -, y⟩)
                · exact z1 y
                · have t8 := drp_lt hG ht
                  have a := h2.2.2.1 t j t8.2 b1 b2 y
                  have b := z2 t ht
                  unfold pos at a
                  omega
            · rw [am_u_nq (by omega)]; exact ha s (by omega) hl j b1 b2
          · rw [if_neg (fun z => cl ((ni_inj (by omega) (by omega)).mp z))]
            refine ihm (c + 1) I2 (by omega) (by omega) h2 f2 (fun s hs2 hl j b1 b2 => ?_)
            by_cases es : s = c
            · subst es; exact absurd hl cl
            · exact ha s (by omega) hl j b1 b2
      refine v10_28 hp hx ⟨r + 15, hF.2, sor_sh hr, ?_⟩
      rw [st.2.2.2.1, if_neg (fun z => absurd ((ni_lt (by omega) (by omega)).mp z) (by omega)), show (0 : Int32) = ni 0 from rfl]
      exact LA _ 0 I1 rfl (by omega) h1 hf (fun s h => absurd h (by omega))
  have LZ : ∀ (m c : Nat) (I1 : am_I) (l4 : Option Value), 8 - c = m → c ≤ 8 → (∀ t, t < c → I1 (x + 3) (25 * t + i) = 0) → cPf x i I I1 → am_go none (d + 4) 10 (2, [some (.ref 112), some (.ref x), some (.int (ni i)), some (.int (ni c)), l4], [], (am_SH, I1, J, Pf), 0, 0) P := by
    intro m
    induction m with
    | zero =>
      intro c I1 l4 hm hc2 hz hf
      have : c = 8 := by omega
      subst this
      refine v10_2 hp hx ?_
      rw [if_pos ((gle 8 (by omega) (by omega)).mpr (by omega)), show (0 : Int32) = ni 0 from rfl]
      refine LL _ 0 I1 (fun t b e => b ≠ i ∧ pos Ht t b e) _ rfl (Nat.zero_le _) ⟨fun b b1 b2 t t8 => ?_, fun t b e t8 b1 b2 b3 => ⟨fun z => z.2, fun z => ⟨by omega, z⟩⟩, fun t e t8 b1 b2 z => absurd rfl z.1, fun t e t8 hl => absurd hl (by omega)⟩ hf
      by_cases eb : b = i
      · subst eb
        rw [hz t t8]
        exact bts_0 (fun j _ z => z.2.2.1 rfl)
      · rw [hf (x + 3) (25 * t + b) (fun z => by obtain ⟨-, t', z1, z2⟩ := z; omega) (by omega)]
        exact (hb b (by omega) b2 t t8).of (fun j _ => ⟨fun z => ⟨z.1, z.2.1, eb, z.2.2⟩, fun z => ⟨z.1, z.2.1, z.2.2.2⟩⟩)
    | succ m ih =>
      intro c I1 l4 hm hc2 hz hf
      refine v10_2 hp hx ?_
      rw [if_neg (fun z => absurd ((gle 8 (by omega) (by omega)).mp z) (by omega)), show (25 : Int32) = ni 25 from rfl, ni_mul, ni_add, show (ni (c * 25 + i)).toNatClampNeg = 25 * c + i by rw [ni_nat (by omega)]; omega, ni_p1]
      refine ⟨ni_in (by omega) (by omega), ih (c + 1) _ _ (by omega) (by omega) (fun t ht => ?_) (fun o k e1 e2 => (am_u_nq (fun z => e1 ⟨z.1, c, by omega, z.2⟩)).trans (hf o k e1 e2))⟩
      by_cases e : t = c
      · subst e; exact am_u_same
      · rw [am_u_nq (by omega)]; exact hz t (by omega)
  refine am_mth_of rfl rfl (v10_0 hp hx ?_)
  rw [show (0 : Int32) = ni 0 from rfl]
  exact LZ _ 0 I _ rfl (by omega) (fun t h => absurd h (by omega)) cPf.rfl'
end FNR
