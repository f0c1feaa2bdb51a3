/-! By how many rows of places: the class and the reference -/
theorem smI_s {f : Nat → Int32} {i m : Nat} : smI f i (m + 1) = smI f i m + f (i + m) := rfl
section RWS
variable {d : Nat} {P : am_O → Prop} {J : am_J} {Pf : am_R} {T : TX} {w : Nat → Int32} {r : Nat} {S : Nat → Nat → Nat → Prop}
theorem sc_rows (hp : am_PF Pf) (hr : r = 16 ∨ r = 55) (hF : cFn Pf r) (hG : WG w) {I : am_I} (hR : cRs r I J w) (hT : cTx 135 I T) (hTo : txOK T) (hRu : ∀ a, a ≤ T.1 → I 137 a = ni (rnT w T a)) (hS : ∀ b, b ≤ T.1 → cRw 138 I T.1 S b) {p i j : Nat} (hpp : p < wN w 1) (hij : i ≤ j) (hj : j ≤ T.1)
    (kk : ∀ I', (∀ o k, o ≠ 152 → o ≠ 153 → I' o k = I o k) → P (.inl (some (.int (rwM w T S p i j (wN w (32 + 3 * p + 2)) j))), (am_SH, I', J, Pf), 0, 0)) : am_mth (d + 2) 125 [.ref 145, .int (ni p), .int (ni i), .int (ni j)] (am_SH, I, J, Pf) P := by
  have h24 := hT.2.1
  have hrs := rul_sh hr
  have hrr : r ≤ 55 := by omega
  obtain ⟨-, ⟨w1, w1'⟩, -⟩ := id hG.1
  obtain ⟨g1, g2, g3, g4, g5, g6⟩ := hG.pr hpp
  obtain ⟨q1, q2, q3, q4⟩ := hR.1.2.2.1 p hpp
  have ep : (ni p).toNatClampNeg = p := ni_nat (by omega)
  have stay : ∀ I1, (∀ o k, o ≠ 152 → o ≠ 153 → I1 o k = I o k) → cRs r I1 J w ∧ cTx 135 I1 T ∧ (∀ a, a ≤ T.1 → I1 137 a = ni (rnT w T a)) ∧ (∀ b, b ≤ T.1 → cRw 138 I1 T.1 S b) := fun I1 hf =>
    ⟨hR.low hr hG (fun o k h => hf o k (by omega) (by omega)) (fun _ _ => rfl), ⟨by rw [hf _ _ (by omega) (by omega)]; exact hT.1, h24, fun x hx => by rw [hf _ _ (by omega) (by omega)]; exact hT.2.2 x hx⟩, fun a ha => by rw [hf _ _ (by omega) (by omega)]; exact hRu a ha, fun b hb => (hS b hb).of (fun t _ => hf _ _ (by omega) (by omega))⟩
  -- one place's ends
  have LT : ∀ (m k a b e : Nat) (u : Int32) (I1 : am_I) (l7 : Option Value), j + 1 - e = m → e ≤ j + 1 ∨ b = e → b ≤ e → k < wN w (32 + 3 * p + 2) → i ≤ a → a ≤ j → b = bgW w T p k a → bts u (prE w T S p k b) → (∀ o y, o ≠ 152 → o ≠ 153 → I1 o y = I o y) → (∀ x, i ≤ x → x ≤ j → I1 152 x = rwM w T S p i j k x) → (∀ x, i ≤ x → x ≤ j → I1 153 x = smI (fun a => cif (prE w T S p k (bgW w T p k a) x) (rwM w T S p i j k a) 0) i (a - i) + (if x < e then cif (prE w T S p k b x) (rwM w T S p i j k a) 0 else 0)) → (∀ I' l7 l8 l9, (∀ o y, o ≠ 152 → o ≠ 153 → I' o y = I o y) → (∀ x, i ≤ x → x ≤ j → I' 152 x = rwM w T S p i j k x) → (∀ x, i ≤ x → x ≤ j → I' 153 x = smI (fun a => cif (prE w T S p k (bgW w T p k a) x) (rwM w T S p i j k a) 0) i (a + 1 - i)) → am_go none (d + 1) 125 (50, [some (.ref 145), some (.int (ni p)), some (.int (ni i)), some (.int (ni j)), some (.ref r), some (.int (ni k)), some (.int (ni (a + 1))), l7, l8, l9], [], (am_SH, I', J, Pf), 0, 0) P) → am_go none (d + 1) 125 (133, [some (.ref 145), some (.int (ni p)), some (.int (ni i)), some (.int (ni j)), some (.ref r), some (.int (ni k)), some (.int (ni a)), l7, some (.int u), some (.int (ni e))], [], (am_SH, I1, J, Pf), 0, 0) P := by
    intro m
    induction m with
    | zero =>
      intro k a b e u I1 l7 hm he hbe hk hia haj hb hu hf h2 h3 kk
      have hb2 := bgW_le (w := w) (p := p) (k := k) (show a ≤ T.1 by omega)
      refine v125_133 hp hrs ?_
      rw [if_pos ((ni_lt (by omega) (by omega)).mpr (by omega)), ni_p1]
      refine kk I1 _ _ _ hf h2 (fun x hx1 hx2 => ?_)
      rw [h3 x hx1 hx2, if_pos (by omega), show a + 1 - i = a - i + 1 by omega, smI_s, show i + (a - i) = a by omega, ← hb]
    | succ m ih =>
      intro k a b e u I1 l7 hm he hbe hk hia haj hb hu hf h2 h3 kk
      refine v125_133 hp hrs ?_
      rw [if_neg (fun z => absurd ((ni_lt (by omega) (by omega)).mp z) (by omega)), show (ni e).toNatClampNeg = e from ni_nat (by omega), show (ni a).toNatClampNeg = a from ni_nat (by omega), ni_p1]
      have hia' : i ≤ e := by
        have := bgW_le (w := w) (p := p) (k := k) (show a ≤ T.1 by omega)
        omega
      by_cases c : prE w T S p k b e
      · rw [if_neg (fun z => (bts_us hu (by omega)).mp z c)]
        refine ⟨ni_in (by omega) (by omega), ni_in (by omega) (by omega), ni_in (by omega) (by omega), ih k a b (e + 1) u _ _ (by omega) (Or.inl (by omega)) (by omega) hk hia haj hb hu (fun o y e1 e2 => (am_u_nq (by omega)).trans (hf o y e1 e2)) (fun x hx1 hx2 => by rw [am_u_nq (by omega)]; exact h2 x hx1 hx2) (fun x hx1 hx2 => ?_) kk⟩
        by_cases ex : x = e
        · subst ex
          rw [am_u_same, h3 x hx1 hx2, h2 a hia haj, if_neg (by omega), if_pos (by omega), cif_t c, Int32.add_zero]
        · rw [am_u_nq (by omega), h3 x hx1 hx2]
          by_cases cx : x < e
          · rw [if_pos cx, if_pos (by omega)]
          · rw [if_neg cx, if_neg (by omega)]
      · rw [if_pos ((bts_us hu (by omega)).mpr c)]
        refine ih k a b (e + 1) u I1 _ (by omega) (Or.inl (by omega)) (by omega) hk hia haj hb hu hf h2 (fun x hx1 hx2 => ?_) kk
        rw [h3 x hx1 hx2]
        by_cases ex : x = e
        · subst ex
          rw [if_neg (by omega), if_pos (by omega), cif_f c]
        · by_cases cx : x < e
          · rw [if_pos cx, if_pos (by omega)]
          · rw [if_neg cx, if_neg (by omega)]
  -- all places
  have LA : ∀ (m k a : Nat) (I1 : am_I) (l7 l8 l9 : Option Value), j + 1 - a = m → i ≤ a → a ≤ j + 1 → k < wN w (32 + 3 * p + 2) → (∀ o y, o ≠ 152 → o ≠ 153 → I1 o y = I o y) → (∀ x, i ≤ x → x ≤ j → I1 152 x = rwM w T S p i j k x) → (∀ x, i ≤ x → x ≤ j → I1 153 x = smI (fun a => cif (prE w T S p k (bgW w T p k a) x) (rwM w T S p i j k a) 0) i (a - i)) → (∀ I' l6 l7 l8 l9, (∀ o y, o ≠ 152 → o ≠ 153 → I' o y = I o y) → (∀ x, i ≤ x → x ≤ j → I' 152 x = rwM w T S p i j (k + 1) x) → am_go none (d + 1) 125 (27, [some (.ref 145), some (.int (ni p)), some (.int (ni i)), some (.int (ni j)), some (.ref r), some (.int (ni (k + 1))), l6, l7, l8, l9], [], (am_SH, I', J, Pf), 0, 0) P) → am_go none (d + 1) 125 (50, [some (.ref 145), some (.int (ni p)), some (.int (ni i)), some (.int (ni j)), some (.ref r), some (.int (ni k)), some (.int (ni a)), l7, l8, l9], [], (am_SH, I1, J, Pf), 0, 0) P := by
    intro m
    induction m with
    | zero =>
      intro k a I1 l7 l8 l9 hm hia haj hk hf h2 h3 kk
      have : a = j + 1 := by omega
      subst this
      refine v125_50 hp hrs ?_
      rw [if_pos ((ni_lt (by omega) (by omega)).mpr (by omega))]
      refine v125_190 (v125_193 hp hrs ?_)
      rw [ni_p1]
      refine kk _ _ _ _ _ (fun o y e1 e2 => (cpI_out (by omega)).trans (hf o y e1 e2)) (fun x hx1 hx2 => ?_)
      rw [cpI_in (by omega) (by omega), show 0 + (x - 0) = x by omega, h3 x hx1 hx2]
      rfl
    | succ m ih =>
      intro k a I1 l7 l8 l9 hm hia haj hk hf h2 h3 kk
      have hb2 := bgW_le (w := w) (p := p) (k := k) (show a ≤ T.1 by omega)
      obtain ⟨s1, s2, s3, s4⟩ := stay I1 hf
      refine v125_50 hp hrs ?_
      rw [if_neg (fun z => absurd ((ni_lt (by omega) (by omega)).mp z) (by omega)), show (ni a).toNatClampNeg = a from ni_nat (by omega), h2 a hia (by omega), ni_p1]
      have bin : am_in (ni a) 25 = true := ni_in (by omega) (by omega)
      refine ⟨bin, ?_⟩
      by_cases c0 : rwM w T S p i j k a = 0
      · rw [if_pos c0]
        refine ih k (a + 1) I1 _ _ _ (by omega) (by omega) (by omega) hk hf h2 (fun x hx1 hx2 => ?_) kk
        rw [h3 x hx1 hx2, show a + 1 - i = a - i + 1 by omega, smI_s, show i + (a - i) = a by omega, c0]
        have : ∀ c : Prop, cif c (0 : Int32) 0 = 0 := fun c => by
          by_cases h : c
          · exact cif_t h
          · exact cif_f h
        rw [this, Int32.add_zero]
      rw [if_neg c0]
      -- the part from where it begins
      have GO : ∀ (l7 : Option Value) (b : Nat), b = bgW w T p k a → am_mth (d + 1) 16 [.ref 112, .ref 135, .int (ni (4 * p + k)), .int (ni b), .ref 138] (am_SH, I1, J, Pf) (am_af none (d + 1) 125 124 [some (.ref 145), some (.int (ni p)), some (.int (ni i)), some (.int (ni j)), some (.ref r), some (.int (ni k)), some (.int (ni a)), some (.int (ni b)), l8, l9] [.ref 138, .int (ni b), .int (ni (4 * p + k)), .ref 135, .ref 112] [] (am_SH, I1, J, Pf) 0 0 false P) := by
        intro l7 b hb
        refine sc_pends (d := d) hp rfl hr hF hG s1.1 s1.2.2.2.2.2.2 s2 hTo (x4 := 138) (Lx4 := 200) rfl (by omega) hpp hk (by omega) (fun _ => s4 b (by omega)) (fun u hu => am_back (v125_127 hp hrs ?_))
        refine LT _ k a b b u I1 _ rfl (Or.inr rfl) (Nat.le_refl _) hk hia (by omega) hb hu hf h2 (fun x hx1 hx2 => ?_) (fun I' l7 l8 l9 z1 z2 z3 => ih k (a + 1) I' l7 l8 l9 (by omega) (by omega) (by omega) hk z1 z2 z3 kk)
        rw [h3 x hx1 hx2]
        by_cases cx : x < b
        · rw [if_pos cx, cif_f (fun z => by have := prE_le hG z; omega), Int32.add_zero]
        · rw [if_neg cx, Int32.add_zero]
      have e4 : ni p * 4 + ni k = ni (4 * p + k) := by rw [show (4 : Int32) = ni 4 from rfl, ni_mul, ni_add, Nat.mul_comm]
      have same : bgW w T p k a = a → am_go none (d + 1) 125 (97, [some (.ref 145), some (.int (ni p)), some (.int (ni i)), some (.int (ni j)), some (.ref r), some (.int (ni k)), some (.int (ni a)), l7, l8, l9], [], (am_SH, I1, J, Pf), 0, 0) P := by
        intro hb
        refine v125_97 hp hrs ?_
        rw [e4]
        exact GO l7 a hb.symm
      by_cases ck : k = 0
      · rw [if_pos ((lle 0 (by omega) (by omega)).mpr (by omega))]
        exact same (by unfold bgW; rw [if_pos (Or.inl ck)])
      · rw [if_neg (fun z => absurd ((lle 0 (by omega) (by omega)).mp z) (by omega)), ep, show I1 (r + 3) p = I (r + 3) p from hf _ _ (by omega) (by omega), q2]
        refine ⟨ni_in (by omega) (by omega), ?_⟩
        by_cases cr : w (32 + 3 * p + 1) = 0
        · rw [if_pos cr]
          exact same (by unfold bgW; rw [if_pos (Or.inr cr)])
        · rw [if_neg cr, s3 a (by omega), e4]
          exact ⟨bin, GO none _ (by unfold bgW; rw [if_neg (fun z => z.elim ck cr)])⟩
  have LK : ∀ (m k : Nat) (I1 : am_I) (l6 l7 l8 l9 : Option Value), wN w (32 + 3 * p + 2) - k = m → k ≤ wN w (32 + 3 * p + 2) → (∀ o y, o ≠ 152 → o ≠ 153 → I1 o y = I o y) → (∀ x, i ≤ x → x ≤ j → I1 152 x = rwM w T S p i j k x) → am_go none (d + 1) 125 (27, [some (.ref 145), some (.int (ni p)), some (.int (ni i)), some (.int (ni j)), some (.ref r), some (.int (ni k)), l6, l7, l8, l9], [], (am_SH, I1, J, Pf), 0, 0) P := by
    intro m
    induction m with
    | zero =>
      intro k I1 l6 l7 l8 l9 hm hk hf h2
      have : k = wN w (32 + 3 * p + 2) := by omega
      subst this
      refine v125_27 hp hrs ?_
      rw [ep, show I1 (r + 4) p = I (r + 4) p from hf _ _ (by omega) (by omega), q3, g4, if_pos ((ni_le (by omega) (by omega)).mpr (Nat.le_refl _)), show (ni j).toNatClampNeg = j from ni_nat (by omega), h2 j hij (Nat.le_refl _)]
      exact ⟨ni_in (by omega) (by omega), ni_in (by omega) (by omega), kk I1 hf⟩
    | succ m ih =>
      intro k I1 l6 l7 l8 l9 hm hk hf h2
      refine v125_27 hp hrs ?_
      rw [ep, show I1 (r + 4) p = I (r + 4) p from hf _ _ (by omega) (by omega), q3, g4, if_neg (fun z => absurd ((ni_le (by omega) (by omega)).mp z) (by omega))]
      refine ⟨ni_in (by omega) (by omega), sp_fill (d := d) (L := 25) hp rfl (by omega) (am_back (v125_47 hp hrs ?_))⟩
      refine LA _ k i _ _ _ _ rfl (Nat.le_refl _) (by omega) (by omega) (fun o y e1 e2 => by unfold am_fill; rw [if_neg (fun z => e2 z.1)]; exact hf o y e1 e2) (fun x hx1 hx2 => by unfold am_fill; rw [if_neg (fun z => absurd z.1 (by omega))]; exact h2 x hx1 hx2) (fun x hx1 hx2 => ?_) (fun I' l6 l7 l8 l9 z1 z2 => ih (k + 1) I' l6 l7 l8 l9 (by omega) (by omega) z1 z2)
      unfold am_fill
      rw [if_pos ⟨rfl, Nat.zero_le _, by omega⟩, Nat.sub_self]
      rfl
  refine am_mth_of rfl rfl (v125_0 hp ⟨r, hF.1, hrs, ?_⟩)
  refine sp_fill (d := d) (L := 25) hp rfl (by omega) (am_back (v125_17 hp hrs ?_))
  rw [show (ni i).toNatClampNeg = i from ni_nat (by omega), show (0 : Int32) = ni 0 from rfl]
  refine ⟨ni_in (by omega) (by omega), LK _ 0 _ _ _ _ _ rfl (Nat.zero_le _) (fun o y e1 e2 => ?_) (fun x hx1 hx2 => ?_)⟩
  · rw [am_u_nq (by omega)]
    unfold am_fill
    rw [if_neg (fun z => e1 z.1)]
  · show _ = if x = i then (1 : Int32) else 0
    by_cases e : x = i
    · subst e; rw [am_u_same, if_pos rfl]
    · rw [am_u_nq (by omega), if_neg e]
      unfold am_fill
      rw [if_pos ⟨rfl, Nat.zero_le _, by omega⟩]
      rfl
end RWS
