/-! The class's trees: a node's parts -/
section KID
variable {w : Nat → Int32} {T : TX} {H : Nat → Nat → Nat → Nat}
theorem goW_le (hG : WG w) {p j m k b e : Nat} (h : goW w T H p j m k b e) : b ≤ e ∧ e ≤ j := ⟨(prE_le hG h.2.1).1, h.1⟩
theorem ceW_go {p j m r k a : Nat} (hr : r + 1 = wN w (32 + 3 * p + 2) - k) (h : ceW w T H p j m (r + 1) k a) : ∃ e, goW w T H p j m k (bgW w T p k a) e := by
  obtain ⟨e, z1, z2, z3⟩ := h
  exact ⟨e, z1, z2, by rw [show wN w (32 + 3 * p + 2) - k - 1 = r by omega]; exact z3⟩
theorem kidW_ok (hG : WG w) {p j m : Nat} (hpp : p < wN w 1) (hj : j ≤ T.1) : ∀ (r k a : Nat), r = wN w (32 + 3 * p + 2) - k → ceW w T H p j m r k a → (kidW w T H p j m r k a).length ≤ r ∧ ∀ y, y ∈ kidW w T H p j m r k a → y.1 < 8 ∧ y.2.1 ≤ y.2.2 ∧ y.2.2 ≤ j ∧ lo H m y.1 y.2.1 y.2.2
  | 0, k, a, _, _ => ⟨Nat.le_refl _, fun y hy => absurd hy (by simp [kidW])⟩
  | r + 1, k, a, hr, h => by
    obtain ⟨e0, he0⟩ := ceW_go hr h
    obtain ⟨g1, g2, g3⟩ := lst_le he0
    have g4 : ceW w T H p j m r (k + 1) (lst (goW w T H p j m k (bgW w T p k a))) := by
      have := g1.2.2
      rw [show wN w (32 + 3 * p + 2) - k - 1 = r by omega] at this
      exact this
    obtain ⟨i1, i2⟩ := kidW_ok hG hpp hj r (k + 1) _ (by omega) g4
    unfold kidW
    split
    · rename_i c
      refine ⟨by simp only [List.length_cons]; omega, fun y hy => ?_⟩
      rcases List.mem_cons.mp hy with e | e
      · subst e
        have s8 := (WG.so ((hG.pr hpp).2.2.2.2.2 k (by omega)) c).1
        rcases g1.2.1 with z | z | z
        · have := z.1; rw [c] at this; cases this
        · exact ⟨s8, z.2.1, g1.1, z.2.2.2⟩
        · have := z.1; rw [c] at this; cases this
      · exact i2 y e
    · exact ⟨by omega, i2⟩
end KID
section TRB
variable {d : Nat} {P : am_O → Prop} {J : am_J} {Pf : am_R} {T : TX} {w : Nat → Int32} {r : Nat}
def ndK (dp : Nat) (y : Nat × Nat × Nat) : ND := (y.1, y.2.1, y.2.2, dp)
theorem cWt.push {I : am_I} {A : List ND} {t b e dp : Nat} (h : cWt I A) : cWt (am_u (am_u (am_u (am_u (am_u I 150 (4 * A.length) (ni t)) 150 (4 * A.length + 1) (ni b)) 150 (4 * A.length + 2) (ni e)) 150 (4 * A.length + 3) (ni dp)) 145 12 (ni (A.length + 1))) (A ++ [(t, b, e, dp)]) := by
  refine ⟨by rw [am_u_same, List.length_append]; rfl, fun x n hx => ?_⟩
  by_cases c : x < A.length
  · rw [List.getElem?_append_left c] at hx
    exact (h.2 x n hx).of (fun y hy => by rw [am_u_nq (by omega), am_u_nq (by omega), am_u_nq (by omega), am_u_nq (by omega), am_u_nq (by omega)])
  · rw [List.getElem?_append_right (by omega)] at hx
    by_cases c2 : x = A.length
    · subst c2
      rw [Nat.sub_self] at hx
      cases hx
      refine ⟨?_, ?_, ?_, ?_⟩
      · rw [am_u_nq (by omega), am_u_nq (by omega), am_u_nq (by omega), am_u_nq (by omega), am_u_same]
      · rw [am_u_nq (by omega), am_u_nq (by omega), am_u_nq (by omega), am_u_same]
      · rw [am_u_nq (by omega), am_u_nq (by omega), am_u_same]
      · rw [am_u_nq (by omega), am_u_same]
    · rw [show ([(t, b, e, dp)] : List ND)[x - A.length]? = none from List.getElem?_eq_none (by simp only [List.length_cons, List.length_nil]; omega)] at hx
      cases hx
/-- what trees change -/
def cBrf (I I' : am_I) : Prop := ∀ o y, o ≠ 150 → o ≠ 151 → ¬ (o = 145 ∧ y = 12) → I' o y = I o y
theorem sc_branch (hp : am_PF Pf) (hr : r = 16 ∨ r = 55) (hF : cFn Pf r) (hG : WG w) (hs : sndW w) {I : am_I} {k0 : Nat} (hk0 : cTk r I J w k0 T) (hTo : txOK T) {s i j dp : Nat} (h8 : s < 8) (hij : i ≤ j) (hj : j ≤ T.1) (hpos : 0 < HHx w k0 T s i j) (hdp : dp < 100000) {A : List ND} (hA : cWt I A) (hAl : A.length ≤ 597)
    (kk : ∀ I', cWt I' (A ++ ((kidsW w T (HHx w k0 T) s i j).map (ndK dp)).reverse) → cBrf I I' → P (.inl none, (am_SH, I', J, Pf), 0, 0)) : am_mth (d + 4) 133 [.ref 145, .int (ni s), .int (ni i), .int (ni j), .int (ni (HHx w k0 T s i j)), .int (ni dp)] (am_SH, I, J, Pf) P := by
  obtain ⟨hR, hTb, hM⟩ := id hk0
  have h24 := hTb.1.2.1
  have hrs := rul_sh hr
  obtain ⟨-, ⟨w1, w1'⟩, -⟩ := id hG.1
  have hbd := sol_bd hG h24 (HHx_sol hG hs k0 T) s i j h8 hij hj
  obtain ⟨m, hm⟩ : ∃ m, HHx w k0 T s i j = m + 1 := ⟨HHx w k0 T s i j - 1, by omega⟩
  have stay : ∀ I1 : am_I, cBrf I I1 → cTk r I1 J w k0 T := fun I1 hf => hk0.of hr hG (fun o y e => hf o y (by omega) (by omega) (by omega)) (hf _ _ (by omega) (by omega) (by omega)) (fun y => hf _ _ (by omega) (by omega) (by omega))
  rw [hm]
  -- the parts of the production that is found
  have LK : ∀ (q p k a : Nat) (I1 : am_I) (K : List (Nat × Nat × Nat)) (l1 l2 l11 l12 : Option Value), p < wN w 1 → q = wN w (32 + 3 * p + 2) - k → k ≤ wN w (32 + 3 * p + 2) → i ≤ a → a ≤ j → ceW w T (HHx w k0 T) p j m q k a → K.length ≤ k → cWt I1 (A ++ K.map (ndK dp)) → cBrf I I1 → (∀ k', k' < wN w (32 + 3 * p + 2) → bts (I1 151 k') (fun b => i ≤ b ∧ b ≤ j ∧ stW w T (HHx w k0 T) p j m k' b)) → (kidsW w T (HHx w k0 T) s i j = K ++ kidW w T (HHx w k0 T) p j m q k a) → (∀ v, (k < wN w (32 + 3 * p + 2) → v = ni (bgW w T p k a)) → am_go none (d + 3) 133 (62, [some (.ref 145), l1, l2, some (.int (ni j)), some (.int (ni (m + 1))), some (.int (ni dp)), some (.ref r), some (.int (ni p)), some (.int (ni A.length)), some (.int v), some (.int (ni k)), l11, l12], [], (am_SH, I1, J, Pf), 0, 0) P) := by
    intro q
    induction q with
    | zero =>
      intro p k a I1 K l1 l2 l11 l12 hpp hq hk hia haj hce hKl hW hf hst hkid v hv
      have hkN : k = wN w (32 + 3 * p + 2) := by omega
      obtain ⟨g1, g2, g3, g4, g5, g6⟩ := hG.pr hpp
      have s1 := stay I1 hf
      obtain ⟨q1, q2, q3, q4⟩ := s1.1.1.2.2.1 p hpp
      refine v133_62 hp hrs ?_
      rw [show (ni p).toNatClampNeg = p from ni_nat (by omega), q3, g4, if_pos ((ni_le (by omega) (by omega)).mpr (by omega))]
      refine ⟨ni_in (by omega) (by omega), ?_⟩
      have hKe : kidsW w T (HHx w k0 T) s i j = K := by rw [hkid]; unfold kidW; exact List.append_nil _
      rw [hKe] at kk
      rw [hW.1, List.length_append, List.length_map]
      refine sc_turnround (d := d + 2) hp (a := A.length) (n := K.length) (by omega) (fun I2 a1 a2 a3 => am_back (v133_194 hp ?_))
      refine kk I2 ⟨?_, fun x n hx => ?_⟩ (fun o y e1 e2 e3 => (a3 o y e1).trans (hf o y e1 e2 e3))
      · rw [a3 _ _ (by omega), hW.1, List.length_append, List.length_append, List.length_reverse]
      · by_cases c : x < A.length
        · rw [List.getElem?_append_left c] at hx
          have := hW.2 x n (by rw [List.getElem?_append_left c]; exact hx)
          exact this.of (fun y hy => a2 x y (by omega) hy)
        · rw [List.getElem?_append_right (by omega)] at hx
          have hlt : x - A.length < K.length := by
            have := (List.getElem?_eq_some_iff.mp hx).1
            rw [List.length_reverse, List.length_map] at this
            exact this
          rw [List.getElem?_reverse (by rw [List.length_map]; exact hlt), List.length_map] at hx
          have := hW.2 (2 * A.length + K.length - 1 - x) n (by
            rw [List.getElem?_append_right (by omega), show 2 * A.length + K.length - 1 - x - A.length = K.length - 1 - (x - A.length) by omega]
            exact hx)
          have t := fun y hy => a1 x y (by omega) (by omega) hy
          have t0 := t 0 (by omega)
          rw [Nat.add_zero, Nat.add_zero] at t0
          exact ⟨t0.trans this.1, (t 1 (by omega)).trans this.2.1, (t 2 (by omega)).trans this.2.2.1, (t 3 (by omega)).trans this.2.2.2⟩
    | succ q ih =>
      intro p k a I1 K l1 l2 l11 l12 hpp hq hk hia haj hce hKl hW hf hst hkid v hv
      obtain ⟨g1, g2, g3, g4, g5, g6⟩ := hG.pr hpp
      have s1 := stay I1 hf
      obtain ⟨q1, q2, q3, q4⟩ := s1.1.1.2.2.1 p hpp
      have hvb := hv (by omega)
      subst hvb
      have ep : (ni p).toNatClampNeg = p := ni_nat (by omega)
      have hb2 := bgW_le (w := w) (p := p) (k := k) (show a ≤ T.1 by omega)
      obtain ⟨e0, he0⟩ := ceW_go (by omega) hce
      obtain ⟨l1', l2', l3'⟩ := lst_le he0
      have hge0 := goW_le hG he0
      have hgel := goW_le hG l1'
      generalize hbb : bgW w T p k a = b at *
      generalize hee : lst (goW w T (HHx w k0 T) p j m k b) = e at *
      -- the end is found
      have FE : ∀ (l1 l2 l11 : Option Value) (x11 : Int32), x11 = ni (4 * p + k) → am_go none (d + 3) 133 (118, [some (.ref 145), l1, l2, some (.int (ni j)), some (.int (ni (m + 1))), some (.int (ni dp)), some (.ref r), some (.int (ni p)), some (.int (ni A.length)), some (.int (ni b)), some (.int (ni k)), some (.int x11), some (.int (ni e))], [], (am_SH, I1, J, Pf), 0, 0) P := by
        intro l1 l2 l11 x11 hx
        subst hx
        obtain ⟨e1, e2, e3⟩ := q4 k (by omega)
        have hlen : (A ++ K.map (ndK dp)).length = A.length + K.length := by rw [List.length_append, List.length_map]
        -- the next part
        have NX : ∀ (I2 : am_I) (K2 : List (Nat × Nat × Nat)) (l9 l11 : Option Value), K2.length ≤ k + 1 → cWt I2 (A ++ K2.map (ndK dp)) → cBrf I I2 → (∀ y, I2 151 y = I1 151 y) → (kidsW w T (HHx w k0 T) s i j = K2 ++ kidW w T (HHx w k0 T) p j m q (k + 1) e) → am_go none (d + 3) 133 (148, [some (.ref 145), l1, l2, some (.int (ni j)), some (.int (ni (m + 1))), some (.int (ni dp)), some (.ref r), some (.int (ni p)), some (.int (ni A.length)), l9, some (.int (ni k)), l11, some (.int (ni e))], [], (am_SH, I2, J, Pf), 0, 0) P := by
          intro I2 K2 l9 l11 hK2 hW2 f2 h151 hkid2
          have s2 := stay I2 f2
          have q22 := (s2.1.1.2.2.1 p hpp).2.1
          have hce2 : ceW w T (HHx w k0 T) p j m q (k + 1) e := by
            have := l1'.2.2
            rw [show wN w (32 + 3 * p + 2) - k - 1 = q by omega] at this
            exact this
          refine v133_148 hp hrs ?_
          rw [ep, q22, ni_p1]
          refine ⟨ni_in (by omega) (by omega), ?_⟩
          by_cases cr : w (32 + 3 * p + 1) = 0
          · rw [if_pos cr]
            exact ih p (k + 1) e I2 K2 _ _ _ _ hpp (by omega) (by omega) (by omega) (by omega) hce2 hK2 hW2 f2 (fun k' hk' => by rw [h151]; exact hst k' hk') hkid2 _ (fun _ => by unfold bgW; rw [if_pos (Or.inr cr)])
          · rw [if_neg cr, show (ni e).toNatClampNeg = e from ni_nat (by omega), s2.2.1.2.1 e (by omega)]
            exact ⟨ni_in (by omega) (by omega), ih p (k + 1) e I2 K2 _ _ _ _ hpp (by omega) (by omega) (by omega) (by omega) hce2 hK2 hW2 f2 (fun k' hk' => by rw [h151]; exact hst k' hk') hkid2 _ (fun _ => by unfold bgW; rw [if_neg (fun z => z.elim (by omega) cr)])⟩
        refine v133_118 hp hrs ?_
        rw [show (ni (4 * p + k)).toNatClampNeg = 4 * p + k from ni_nat (by omega), e1]
        refine ⟨ni_in (by omega) (by omega), ?_⟩
        by_cases c1 : w (eP p k) = 1
        · obtain ⟨t8, te⟩ := WG.so (g6 k (by omega)) c1
          rw [if_pos c1, e2 (by rw [c1]; decide), te, hW.1, hlen]
          refine ⟨ni_in (by omega) (by omega), ?_⟩
          rw [show (4 : Int32) = ni 4 from rfl, ni_mul, ni_add, if_pos ((lle 2404 (by omega) (by omega)).mpr (by omega)), ni_p1 ((A.length + K.length) * 4), ni_p2 ((A.length + K.length) * 4), ni_p3 ((A.length + K.length) * 4), ni_p1 (A.length + K.length)]
          refine ⟨ni_in (by omega) (by omega), ni_in (by omega) (by omega), ni_in (by omega) (by omega), ni_in (by omega) (by omega), ?_⟩
          rw [show (ni ((A.length + K.length) * 4)).toNatClampNeg = 4 * (A.length + K.length) by rw [ni_nat (by omega)]; omega, show (ni ((A.length + K.length) * 4 + 1)).toNatClampNeg = 4 * (A.length + K.length) + 1 by rw [ni_nat (by omega)]; omega, show (ni ((A.length + K.length) * 4 + 2)).toNatClampNeg = 4 * (A.length + K.length) + 2 by rw [ni_nat (by omega)]; omega, show (ni ((A.length + K.length) * 4 + 3)).toNatClampNeg = 4 * (A.length + K.length) + 3 by rw [ni_nat (by omega)]; omega]
          have hpush := hW.push (t := wN w (eP p k + 1)) (b := b) (e := e) (dp := dp)
          rw [hlen] at hpush
          refine NX _ (K ++ [(wN w (eP p k + 1), b, e)]) _ _ (by rw [List.length_append]; simp only [List.length_cons, List.length_nil]; omega) ?_ (fun o y h1 h2 h3 => ?_) (fun y => ?_) ?_
          · rw [List.map_append, ← List.append_assoc]
            exact hpush
          · rw [am_u_nq (by omega), am_u_nq (by omega), am_u_nq (by omega), am_u_nq (by omega), am_u_nq (by omega)]
            exact hf o y h1 h2 h3
          · rw [am_u_nq (by omega), am_u_nq (by omega), am_u_nq (by omega), am_u_nq (by omega), am_u_nq (by omega)]
          · rw [hkid, List.append_assoc]
            congr 1
            show kidW w T (HHx w k0 T) p j m (q + 1) k a = _
            rw [show kidW w T (HHx w k0 T) p j m (q + 1) k a = if w (eP p k) = 1 then (wN w (eP p k + 1), bgW w T p k a, lst (goW w T (HHx w k0 T) p j m k (bgW w T p k a))) :: kidW w T (HHx w k0 T) p j m q (k + 1) (lst (goW w T (HHx w k0 T) p j m k (bgW w T p k a))) else _ from rfl, if_pos c1, hbb, hee]
            rfl
        · rw [if_neg c1]
          refine NX I1 K _ _ (by omega) hW hf (fun _ => rfl) ?_
          rw [hkid]
          congr 1
          show kidW w T (HHx w k0 T) p j m (q + 1) k a = _
          rw [show kidW w T (HHx w k0 T) p j m (q + 1) k a = if w (eP p k) = 1 then _ else kidW w T (HHx w k0 T) p j m q (k + 1) (lst (goW w T (HHx w k0 T) p j m k (bgW w T p k a))) from rfl, if_neg c1, hbb, hee]
      have LE : ∀ (m2 x : Nat) (x11 : Int32), e - x = m2 → b ≤ x → x ≤ e → x11 = ni (4 * p + k) → am_go none (d + 3) 133 (88, [some (.ref 145), l1, l2, some (.int (ni j)), some (.int (ni (m + 1))), some (.int (ni dp)), some (.ref r), some (.int (ni p)), some (.int (ni A.length)), some (.int (ni b)), some (.int (ni k)), some (.int x11), some (.int (ni x))], [], (am_SH, I1, J, Pf), 0, 0) P := by
        intro m2
        induction m2 with
        | zero =>
          intro x x11 hm2 hbx hxe hx11
          have : x = e := by omega
          subst this
          refine v133_88 hp hrs ?_
          by_cases cj : j ≤ x
          · rw [if_pos ((ni_le (by omega) (by omega)).mpr cj)]
            exact FE _ _ none x11 hx11
          · rw [if_neg (fun z => cj ((ni_le (by omega) (by omega)).mp z))]
            refine sc_goeson (d := d + 1) hp hr hF hG hs s1 hTo hpp (by omega) (show i ≤ b by omega) hbx (by omega) hj (by omega) (fun k' h1 h2 => hst k' h2) (fun z => am_back (v133_109 hp hrs ?_)) (fun z => absurd l1' z)
            rw [if_neg (by decide)]
            exact FE _ _ none x11 hx11
        | succ m2 ihm =>
          intro x x11 hm2 hbx hxe hx11
          refine v133_88 hp hrs ?_
          rw [if_neg (fun z => absurd ((ni_le (by omega) (by omega)).mp z) (by omega))]
          refine sc_goeson (d := d + 1) hp hr hF hG hs s1 hTo hpp (by omega) (show i ≤ b by omega) hbx (by omega) hj (by omega) (fun k' h1 h2 => hst k' h2) (fun z => absurd z (l2' x (by omega))) (fun z => am_back (v133_109 hp hrs ?_))
          rw [if_pos rfl, ni_p1]
          exact ihm (x + 1) x11 (by omega) (by omega) (by omega) hx11
      refine v133_62 hp hrs ?_
      rw [ep, q3, g4, if_neg (fun z => absurd ((ni_le (by omega) (by omega)).mp z) (by omega)), show (4 : Int32) = ni 4 from rfl, ni_mul, ni_add, Nat.mul_comm p 4]
      exact ⟨ni_in (by omega) (by omega), LE _ b _ rfl (Nat.le_refl _) (by omega) rfl⟩
  have LP : ∀ (m2 p : Nat) (I1 : am_I) (l8 l9 l10 l11 l12 : Option Value), wN w 1 - p = m2 → p ≤ wN w 1 → (∀ p', p' < p → ¬ pdW w T (HHx w k0 T) s i j p') → cWt I1 A → cBrf I I1 → am_go none (d + 3) 133 (12, [some (.ref 145), some (.int (ni s)), some (.int (ni i)), some (.int (ni j)), some (.int (ni (m + 1))), some (.int (ni dp)), some (.ref r), some (.int (ni p)), l8, l9, l10, l11, l12], [], (am_SH, I1, J, Pf), 0, 0) P := by
    intro m2
    induction m2 with
    | zero =>
      intro p I1 l8 l9 l10 l11 l12 hm2 hpp hno hW hf
      have : p = wN w 1 := by omega
      subst this
      have s1 := stay I1 hf
      refine v133_12 hp hrs ?_
      rw [s1.1.1.1.2.1, w1, if_pos ((ni_le (by omega) (by omega)).mpr (Nat.le_refl _))]
      have hk : kidsW w T (HHx w k0 T) s i j = [] := cif_f (fun ⟨p', z⟩ => hno p' z.1 z)
      rw [hk] at kk
      refine kk I1 ?_ hf
      rw [List.map_nil, List.reverse_nil, List.append_nil]
      exact hW
    | succ m2 ih =>
      intro p I1 l8 l9 l10 l11 l12 hm2 hpp hno hW hf
      obtain ⟨g1, g2, -⟩ := hG.pr (p := p) (by omega)
      have s1 := stay I1 hf
      have hPw := s1.1.1.2.2.1 p (by omega)
      have nx : ∀ (I2 : am_I) (l8 l9 l10 l11 l12 : Option Value), ¬ pdW w T (HHx w k0 T) s i j p → cWt I2 A → cBrf I I2 → am_go none (d + 3) 133 (12, [some (.ref 145), some (.int (ni s)), some (.int (ni i)), some (.int (ni j)), some (.int (ni (m + 1))), some (.int (ni dp)), some (.ref r), some (.int (ni (p + 1))), l8, l9, l10, l11, l12], [], (am_SH, I2, J, Pf), 0, 0) P := by
        intro I2 l8 l9 l10 l11 l12 h1 h2 h3
        refine ih (p + 1) I2 _ _ _ _ _ (by omega) (by omega) (fun p' hp' => ?_) h2 h3
        by_cases e : p' = p
        · subst e; exact h1
        · exact hno p' (by omega)
      refine v133_12 hp hrs ?_
      rw [s1.1.1.1.2.1, w1, if_neg (fun z => absurd ((ni_le (by omega) (by omega)).mp z) (by omega)), show (ni p).toNatClampNeg = p from ni_nat (by omega), hPw.1, g2, ni_p1]
      refine ⟨ni_in (by omega) (by omega), ?_⟩
      by_cases c1 : wN w (32 + 3 * p) = s
      · rw [if_pos ((ni_inj (by omega) (by omega)).mpr c1)]
        refine sc_starts (d := d) hp hr hF hG hs s1 hTo (by omega) hij hj (show m < 100000 by omega) (fun I2 a1 a2 => ⟨fun hce => am_back (v133_44 hp hrs ?_), fun hce => am_back (v133_44 hp hrs ?_)⟩)
        · have hf2 : cBrf I I2 := fun o y e1 e2 e3 => (a1 o y e2).trans (hf o y e1 e2 e3)
          have hW2 : cWt I2 A := ⟨by rw [a1 _ _ (by omega)]; exact hW.1, fun x n hx => (hW.2 x n hx).of (fun y _ => a1 _ _ (by omega))⟩
          rw [if_neg (by decide), hW2.1, show (0 : Int32) = ni 0 from rfl]
          have hpd : pdW w T (HHx w k0 T) s i j p := ⟨by omega, c1, by rw [hm]; exact hce⟩
          have hl : lst (pdW w T (HHx w k0 T) s i j) = p := lst_eq hpd hno
          refine LK _ p 0 i I2 [] _ _ _ _ (by omega) rfl (Nat.zero_le _) (Nat.le_refl _) hij (by rw [Nat.sub_zero]; exact hce) (Nat.le_refl _) (by rw [List.map_nil, List.append_nil]; exact hW2) hf2 a2 ?_ _ (fun _ => by unfold bgW; rw [if_pos (Or.inl rfl)])
          show cif _ _ _ = _
          rw [cif_t ⟨p, hpd⟩, hl, hm]
          rfl
        · rw [if_pos rfl, ni_p1]
          exact nx I2 _ _ _ _ _ (fun z => hce (by have := z.2.2; rw [hm] at this; exact this)) ⟨by rw [a1 _ _ (by omega)]; exact hW.1, fun x n hx => (hW.2 x n hx).of (fun y _ => a1 _ _ (by omega))⟩ (fun o y e1 e2 e3 => (a1 o y e2).trans (hf o y e1 e2 e3))
      · rw [if_neg (fun z => c1 ((ni_inj (by omega) (by omega)).mp z))]
        exact nx I1 _ _ _ _ _ (fun z => c1 z.2.1) hW hf
  refine am_mth_of rfl rfl (v133_0 hp ⟨r, hF.1, hrs, ?_⟩)
  rw [show (0 : Int32) = ni 0 from rfl]
  exact LP _ 0 I _ _ _ _ _ rfl (Nat.zero_le _) (fun p' h => absurd h (by omega)) hA (fun _ _ _ _ _ => rfl)
end TRB
