/-! Trees: the model; the class: whether a production goes on -/
section TRM
variable (w : Nat → Int32) (T : TX) (H : Nat → Nat → Nat → Nat)
/-- parts from the k-th on, the one ahead ending at a, come to j by pieces no higher than m -/
def ceW (p j m : Nat) : Nat → Nat → Nat → Prop
  | 0, _, a => a = j
  | r + 1, k, a => ∃ e, e ≤ j ∧ prE w T (lo H m) p k (bgW w T p k a) e ∧ ceW p j m r (k + 1) e
/-- the k-th part from b to e, those behind it on to j -/
def goW (p j m k b e : Nat) : Prop := e ≤ j ∧ prE w T (lo H m) p k b e ∧ ceW w T H p j m (wN w (32 + 3 * p + 2) - k - 1) (k + 1) e
def stW (p j m k b : Nat) : Prop := ∃ e, goW w T H p j m k b e
noncomputable def kidW (p j m : Nat) : Nat → Nat → Nat → List (Nat × Nat × Nat)
  | 0, _, _ => []
  | r + 1, k, a => if w (eP p k) = 1 then (wN w (eP p k + 1), bgW w T p k a, lst (goW w T H p j m k (bgW w T p k a))) :: kidW p j m r (k + 1) (lst (goW w T H p j m k (bgW w T p k a))) else kidW p j m r (k + 1) (lst (goW w T H p j m k (bgW w T p k a)))
/-- a production by which a piece has its height -/
def pdW (s i j : Nat) (p : Nat) : Prop := p < wN w 1 ∧ wN w (32 + 3 * p) = s ∧ ceW w T H p j (H s i j - 1) (wN w (32 + 3 * p + 2)) 0 i
noncomputable def kidsW (s i j : Nat) : List (Nat × Nat × Nat) := cif (∃ p, pdW w T H s i j p) (kidW w T H (lst (pdW w T H s i j)) j (H s i j - 1) (wN w (32 + 3 * (lst (pdW w T H s i j)) + 2)) 0 i) []
/-- sort, from, to, how deep -/
abbrev ND := Nat × Nat × Nat × Nat
noncomputable def kidsN (x : ND) : List ND := (kidsW w T H x.1 x.2.1 x.2.2.1).map (fun y => (y.1, y.2.1, y.2.2, x.2.2.2 + 1))
noncomputable def groW : Nat → List ND → List ND
  | 0, _ => []
  | _ + 1, [] => []
  | r + 1, x :: st => x :: groW r (kidsN w T H x ++ st)
noncomputable def treeW (s i j : Nat) : List ND := groW w T H 200 [(s, i, j, 0)]
end TRM
theorem lst_le {D : Nat → Prop} {n : Nat} (h : D n) : D (lst D) ∧ (∀ h', h' < lst D → ¬ D h') ∧ lst D ≤ n := by
  have c := ex_min n h
  have e : D (lst D) ∧ ∀ h', h' < lst D → ¬ D h' := by
    unfold lst
    rw [dif_pos c]
    exact Classical.choose_spec c
  refine ⟨e.1, e.2, ?_⟩
  by_cases d : lst D ≤ n
  · exact d
  · exact absurd h (e.2 n (by omega))
theorem lst_eq {D : Nat → Prop} {n : Nat} (h : D n) (hn : ∀ m, m < n → ¬ D m) : lst D = n := by
  obtain ⟨a, b, c⟩ := lst_le h
  by_cases d : lst D < n
  · exact absurd a (hn _ d)
  · omega
section TRC
variable {d : Nat} {P : am_O → Prop} {J : am_J} {Pf : am_R} {T : TX} {w : Nat → Int32} {r : Nat}
/-- what is known when a tree is grown -/
def cTk (r : Nat) (I : am_I) (J : am_J) (w : Nat → Int32) (k : Nat) (T : TX) : Prop := cRs r I J w ∧ cTb 135 I w k T ∧ cMd I T.1 (HHx w k T)
theorem cTk.of (hr : r = 16 ∨ r = 55) (hG : WG w) {I I' : am_I} {k : Nat} (h : cTk r I J w k T) (f : ∀ o y, o ≤ 144 → I' o y = I o y) (g1 : I' 145 2 = I 145 2) (g2 : ∀ y, I' 146 y = I 146 y) : cTk r I' J w k T := by
  refine ⟨h.1.low hr hG (fun o y e => f o y (by omega)) (fun _ _ => rfl), h.2.1.of (fun o y _ e => f o y (by omega)), by rw [g1]; exact h.2.2.1, fun s i j h8 hij hj z => by rw [g2]; exact h.2.2.2 s i j h8 hij hj z⟩
theorem sc_goeson (hp : am_PF Pf) (hr : r = 16 ∨ r = 55) (hF : cFn Pf r) (hG : WG w) (hs : sndW w) {I : am_I} {k0 : Nat} (hk0 : cTk r I J w k0 T) (hTo : txOK T) {p k b e i j m : Nat} (hpp : p < wN w 1) (hk : k < wN w (32 + 3 * p + 2)) (hib : i ≤ b) (hbe : b ≤ e) (hej : e ≤ j) (hj : j ≤ T.1) (hm : m < 100000) (hst : ∀ k', k < k' → k' < wN w (32 + 3 * p + 2) → bts (I 151 k') (fun b => i ≤ b ∧ b ≤ j ∧ stW w T (HHx w k0 T) p j m k' b))
    (kk1 : goW w T (HHx w k0 T) p j m k b e → P (.inl (some (.int 1)), (am_SH, I, J, Pf), 0, 0)) (kk0 : ¬ goW w T (HHx w k0 T) p j m k b e → P (.inl (some (.int 0)), (am_SH, I, J, Pf), 0, 0)) : am_mth (d + 2) 135 [.ref 145, .int (ni p), .int (ni k), .int (ni b), .int (ni e), .int (ni j), .int (ni (m + 1))] (am_SH, I, J, Pf) P := by
  obtain ⟨hR, hTb, hM⟩ := hk0
  have h24 := hTb.1.2.1
  have hrs := rul_sh hr
  obtain ⟨-, ⟨w1, w1'⟩, -⟩ := id hG.1
  obtain ⟨g1, g2, g3, g4, g5, g6⟩ := hG.pr hpp
  obtain ⟨q1, q2, q3, q4⟩ := hR.1.2.2.1 p hpp
  have ep : (ni p).toNatClampNeg = p := ni_nat (by omega)
  have bp : am_in (ni p) 20 = true := ni_in (by omega) (by omega)
  have hbd := sol_bd hG h24 (HHx_sol hG hs k0 T)
  -- the part itself
  have PT : ∀ (l8 : Option Value), ceW w T (HHx w k0 T) p j m (wN w (32 + 3 * p + 2) - k - 1) (k + 1) e → am_go none (d + 1) 135 (76, [some (.ref 145), some (.int (ni p)), some (.int (ni k)), some (.int (ni b)), some (.int (ni e)), some (.int (ni j)), some (.int (ni (m + 1))), some (.ref r), l8], [], (am_SH, I, J, Pf), 0, 0) P := by
    intro l8 hce
    refine v135_76 hp hrs ?_
    rw [show (4 : Int32) = ni 4 from rfl, ni_mul, ni_add, Nat.mul_comm p 4]
    refine sc_pends (d := d) hp rfl hr hF hG hR.1 hR.2.2.2.2.2.2 hTb.1 hTo (x4 := 138) (Lx4 := 200) rfl (by omega) hpp hk (by omega) (fun _ => (hTb.2.2 b (by omega)).1) (fun u hu => am_back (v135_104 hp hrs ?_))
    obtain ⟨e1, e2, e3⟩ := q4 k hk
    by_cases c : prE w T (pos (HHx w k0 T)) p k b e
    · rw [if_neg (fun z => (bts_us hu (by omega)).mp z c), show (ni (4 * p + k)).toNatClampNeg = 4 * p + k from ni_nat (by omega), e1]
      refine ⟨ni_in (by omega) (by omega), ?_⟩
      by_cases c1 : w (eP p k) = 1
      · obtain ⟨s8, se⟩ := WG.so (g6 k hk) c1
        rw [if_pos c1, e2 (by rw [c1]; decide), se]
        generalize hss : wN w (eP p k + 1) = s at *
        have hH : 0 < HHx w k0 T s b e := by
          rcases c with z | z | z
          · have := z.1; rw [c1] at this; cases this
          · have := z.2.2.2; rw [hss] at this; exact this
          · have := z.1; rw [c1] at this; cases this
        have hb5 := hbd s b e s8 hbe (by omega)
        rw [show (25 : Int32) = ni 25 from rfl, ni_mul, ni_add, ni_mul, ni_add, show (ni ((s * 25 + b) * 25 + e)).toNatClampNeg = 25 * (25 * s + b) + e by rw [ni_nat (by omega)]; omega, hM.2 s b e s8 hbe (by omega) hH]
        refine ⟨ni_in (by omega) (by omega), ni_in (by omega) (by omega), ?_⟩
        by_cases c2 : m + 1 ≤ HHx w k0 T s b e
        · rw [if_pos ((ni_le (by omega) (by omega)).mpr c2)]
          refine kk0 (fun z => ?_)
          rcases z.2.1 with y | y | y
          · have := y.1; rw [c1] at this; cases this
          · have := y.2.2.2; rw [hss] at this; unfold lo at this; omega
          · have := y.1; rw [c1] at this; cases this
        · rw [if_neg (fun z => c2 ((ni_le (by omega) (by omega)).mp z))]
          exact kk1 ⟨hej, Or.inr (Or.inl ⟨c1, hbe, by omega, by rw [hss]; exact ⟨hH, by omega⟩⟩), hce⟩
      · rw [if_neg c1]
        exact kk1 ⟨hej, prE_k c1 c, hce⟩
    · rw [if_pos ((bts_us hu (by omega)).mpr c)]
      exact kk0 (fun z => c (prE_mono (fun _ _ _ y => y.1) z.2.1))
  refine am_mth_of rfl rfl (v135_0 hp ⟨r, hF.1, hrs, ?_⟩)
  rw [ep, q3, g4, ni_p1]
  refine ⟨bp, ?_⟩
  by_cases c : k + 1 = wN w (32 + 3 * p + 2)
  · rw [if_pos ((ni_inj (by omega) (by omega)).mpr c)]
    have e0 : wN w (32 + 3 * p + 2) - k - 1 = 0 := by omega
    by_cases c2 : e = j
    · rw [if_pos ((ni_inj (by omega) (by omega)).mpr c2)]
      exact PT _ (by rw [e0]; exact c2)
    · rw [if_neg (fun z => c2 ((ni_inj (by omega) (by omega)).mp z))]
      refine kk0 (fun z => c2 ?_)
      have := z.2.2
      rw [e0] at this
      exact this
  · rw [if_neg (fun z => c ((ni_inj (by omega) (by omega)).mp z)), q2, show (ni (k + 1)).toNatClampNeg = k + 1 from ni_nat (by omega)]
    refine ⟨bp, ?_⟩
    have hb1 := hst (k + 1) (by omega) (by omega)
    have er : wN w (32 + 3 * p + 2) - k - 1 = (wN w (32 + 3 * p + 2) - (k + 1) - 1) + 1 := by omega
    have hce : ∀ n, n = bgW w T p (k + 1) e → (ceW w T (HHx w k0 T) p j m (wN w (32 + 3 * p + 2) - k - 1) (k + 1) e ↔ (i ≤ n ∧ n ≤ j ∧ stW w T (HHx w k0 T) p j m (k + 1) n)) := by
      intro n hn
      have hbl := bgW_le (w := w) (p := p) (k := k + 1) (show e ≤ T.1 by omega)
      rw [er]
      constructor
      · rintro ⟨e', z1, z2, z3⟩
        have := prE_le hG z2
        exact ⟨by omega, by omega, e', z1, by rw [hn]; exact z2, z3⟩
      · rintro ⟨-, -, e', z1, z2, z3⟩
        exact ⟨e', z1, by rw [← hn]; exact z2, z3⟩
    by_cases cr : w (32 + 3 * p + 1) = 0
    · rw [if_pos cr]
      refine ⟨ni_in (by omega) (by omega), ?_⟩
      have hn : e = bgW w T p (k + 1) e := by unfold bgW; rw [if_pos (Or.inr cr)]
      by_cases c3 : i ≤ e ∧ e ≤ j ∧ stW w T (HHx w k0 T) p j m (k + 1) e
      · rw [if_neg (fun z => (bts_us hb1 (by omega)).mp z c3)]
        exact PT _ ((hce e hn).mpr c3)
      · rw [if_pos ((bts_us hb1 (by omega)).mpr c3)]
        exact kk0 (fun z => c3 ((hce e hn).mp z.2.2))
    · rw [if_neg cr, show (ni e).toNatClampNeg = e from ni_nat (by omega), hTb.2.1 e (by omega)]
      have hrl := rnT_le (w := w) (T := T) (a := e) (by omega)
      refine ⟨ni_in (by omega) (by omega), ni_in (by omega) (by omega), ?_⟩
      have hn : rnT w T e = bgW w T p (k + 1) e := by unfold bgW; rw [if_neg (fun z => z.elim (by omega) cr)]
      by_cases c3 : i ≤ rnT w T e ∧ rnT w T e ≤ j ∧ stW w T (HHx w k0 T) p j m (k + 1) (rnT w T e)
      · rw [if_neg (fun z => (bts_us hb1 (by omega)).mp z c3)]
        exact PT _ ((hce _ hn).mpr c3)
      · rw [if_pos ((bts_us hb1 (by omega)).mpr c3)]
        exact kk0 (fun z => c3 ((hce _ hn).mp z.2.2))
/-- whether a production goes from i to j, and where each part can begin -/
theorem sc_starts (hp : am_PF Pf) (hr : r = 16 ∨ r = 55) (hF : cFn Pf r) (hG : WG w) (hs : sndW w) {I : am_I} {k0 : Nat} (hk0 : cTk r I J w k0 T) (hTo : txOK T) {p i j m : Nat} (hpp : p < wN w 1) (hij : i ≤ j) (hj : j ≤ T.1) (hm : m < 100000)
    (kk : ∀ I', (∀ o y, o ≠ 151 → I' o y = I o y) → (∀ k', k' < wN w (32 + 3 * p + 2) → bts (I' 151 k') (fun b => i ≤ b ∧ b ≤ j ∧ stW w T (HHx w k0 T) p j m k' b)) → (ceW w T (HHx w k0 T) p j m (wN w (32 + 3 * p + 2)) 0 i → P (.inl (some (.int 1)), (am_SH, I', J, Pf), 0, 0)) ∧ (¬ ceW w T (HHx w k0 T) p j m (wN w (32 + 3 * p + 2)) 0 i → P (.inl (some (.int 0)), (am_SH, I', J, Pf), 0, 0))) : am_mth (d + 3) 134 [.ref 145, .int (ni p), .int (ni i), .int (ni j), .int (ni (m + 1))] (am_SH, I, J, Pf) P := by
  obtain ⟨hR, hTb, hM⟩ := id hk0
  have h24 := hTb.1.2.1
  have hrs := rul_sh hr
  obtain ⟨-, ⟨w1, w1'⟩, -⟩ := id hG.1
  obtain ⟨g1, g2, g3, g4, g5, g6⟩ := hG.pr hpp
  obtain ⟨q1, q2, q3, q4⟩ := hR.1.2.2.1 p hpp
  have stay : ∀ I1 : am_I, (∀ o y, o ≠ 151 → I1 o y = I o y) → cTk r I1 J w k0 T := fun I1 hf => hk0.of hr hG (fun o y e => hf o y (by omega)) (hf _ _ (by omega)) (fun y => hf _ _ (by omega))
  have LK : ∀ (q : Nat) (I1 : am_I) (v : Int32) (l7 l8 l9 : Option Value), q ≤ wN w (32 + 3 * p + 2) → v = ni q - 1 → (∀ o y, o ≠ 151 → I1 o y = I o y) → (∀ k', q ≤ k' → k' < wN w (32 + 3 * p + 2) → bts (I1 151 k') (fun b => i ≤ b ∧ b ≤ j ∧ stW w T (HHx w k0 T) p j m k' b)) → am_go none (d + 2) 134 (20, [some (.ref 145), some (.int (ni p)), some (.int (ni i)), some (.int (ni j)), some (.int (ni (m + 1))), some (.int (ni (wN w (32 + 3 * p + 2)))), some (.int v), l7, l8, l9], [], (am_SH, I1, J, Pf), 0, 0) P := by
    intro q
    induction q with
    | zero =>
      intro I1 v l7 l8 l9 hq hv hf hB
      refine v134_20 hp ?_
      rw [if_pos (by rw [hv]; decide)]
      obtain ⟨k1, k2⟩ := kk I1 hf (fun k' h => hB k' (Nat.zero_le _) h)
      by_cases c0 : wN w (32 + 3 * p + 2) = 0
      · rw [if_pos ((leq 0 (by omega) (by omega)).mpr c0)]
        rw [c0] at k1 k2
        by_cases c1 : i = j
        · rw [if_pos ((ni_inj (by omega) (by omega)).mpr c1)]; exact k1 c1
        · rw [if_neg (fun z => c1 ((ni_inj (by omega) (by omega)).mp z))]; exact k2 c1
      · rw [if_neg (fun z => c0 ((leq 0 (by omega) (by omega)).mp z))]
        have hb0 := hB 0 (Nat.zero_le _) (by omega)
        have hce : ceW w T (HHx w k0 T) p j m (wN w (32 + 3 * p + 2)) 0 i ↔ (i ≤ i ∧ i ≤ j ∧ stW w T (HHx w k0 T) p j m 0 i) := by
          have er : wN w (32 + 3 * p + 2) = (wN w (32 + 3 * p + 2) - 0 - 1) + 1 := by omega
          have eb : bgW w T p 0 i = i := by unfold bgW; rw [if_pos (Or.inl rfl)]
          rw [er]
          constructor
          · rintro ⟨e', z1, z2, z3⟩
            rw [eb] at z2
            exact ⟨Nat.le_refl _, hij, e', z1, z2, z3⟩
          · rintro ⟨-, -, e', z1, z2, z3⟩
            exact ⟨e', z1, by rw [eb]; exact z2, z3⟩
        by_cases c1 : i ≤ i ∧ i ≤ j ∧ stW w T (HHx w k0 T) p j m 0 i
        · rw [if_neg (fun z => (bts_us hb0 (by omega)).mp z c1)]
          exact k1 (hce.mpr c1)
        · rw [if_pos ((bts_us hb0 (by omega)).mpr c1)]
          exact k2 (fun z => c1 (hce.mp z))
    | succ q ih =>
      intro I1 v l7 l8 l9 hq hv hf hB
      have hv2 : v = ni q := by rw [hv]; exact ni_sub (b := 1) (by omega)
      subst hv2
      have bq : am_in (ni q) 4 = true := ni_in (by omega) (by omega)
      have eq' : (ni q).toNatClampNeg = q := ni_nat (by omega)
      -- all places from which
      have LB : ∀ (m2 b : Nat) (I2 : am_I) (l8 l9 : Option Value), j + 1 - b = m2 → i ≤ b → b ≤ j + 1 → (∀ o y, o ≠ 151 → I2 o y = I o y) → (∀ k', q < k' → k' < wN w (32 + 3 * p + 2) → bts (I2 151 k') (fun b => i ≤ b ∧ b ≤ j ∧ stW w T (HHx w k0 T) p j m k' b)) → bts (I2 151 q) (fun x => i ≤ x ∧ x < b ∧ stW w T (HHx w k0 T) p j m q x) → am_go none (d + 2) 134 (36, [some (.ref 145), some (.int (ni p)), some (.int (ni i)), some (.int (ni j)), some (.int (ni (m + 1))), some (.int (ni (wN w (32 + 3 * p + 2)))), some (.int (ni q)), some (.int (ni b)), l8, l9], [], (am_SH, I2, J, Pf), 0, 0) P := by
        intro m2
        induction m2 with
        | zero =>
          intro b I2 l8 l9 hm2 hib hbj f2 hB2 hq2
          have : b = j + 1 := by omega
          subst this
          refine v134_36 hp ?_
          rw [if_pos ((ni_lt (by omega) (by omega)).mpr (by omega))]
          refine ih I2 _ _ _ _ (by omega) (Int32.sub_eq_add_neg _ _).symm f2 (fun k' h1 h2 => ?_)
          by_cases e : k' = q
          · subst e
            exact hq2.of (fun x _ => ⟨fun z => ⟨z.1, by omega, z.2.2⟩, fun z => ⟨z.1, by omega, z.2.2⟩⟩)
          · exact hB2 k' (by omega) h2
        | succ m2 ihm =>
          intro b I2 l8 l9 hm2 hib hbj f2 hB2 hq2
          refine v134_36 hp ?_
          rw [if_neg (fun z => absurd ((ni_lt (by omega) (by omega)).mp z) (by omega)), show (0 : Int32) = ni 0 from rfl]
          -- the flag
          have LE : ∀ (m3 e g : Nat), j + 1 - e = m3 → b ≤ e → e ≤ j + 1 → g < 2 → (g = 0 → ∀ e', b ≤ e' → e' < e → ¬ goW w T (HHx w k0 T) p j m q b e') → (g = 1 → stW w T (HHx w k0 T) p j m q b) → am_go none (d + 2) 134 (49, [some (.ref 145), some (.int (ni p)), some (.int (ni i)), some (.int (ni j)), some (.int (ni (m + 1))), some (.int (ni (wN w (32 + 3 * p + 2)))), some (.int (ni q)), some (.int (ni b)), some (.int (ni g)), some (.int (ni e))], [], (am_SH, I2, J, Pf), 0, 0) P := by
            -- behind it
            have FIN : ∀ (g : Nat) (l9 : Option Value), g < 2 → (g = 0 → ¬ stW w T (HHx w k0 T) p j m q b) → (g = 1 → stW w T (HHx w k0 T) p j m q b) → am_go none (d + 2) 134 (82, [some (.ref 145), some (.int (ni p)), some (.int (ni i)), some (.int (ni j)), some (.int (ni (m + 1))), some (.int (ni (wN w (32 + 3 * p + 2)))), some (.int (ni q)), some (.int (ni b)), some (.int (ni g)), l9], [], (am_SH, I2, J, Pf), 0, 0) P := by
              intro g l9 hg h0 h1
              refine v134_82 hp ?_
              rw [eq', ni_p1]
              by_cases cg : g = 0
              · rw [if_pos ((leq 0 (by omega) (by omega)).mpr cg)]
                refine ihm (b + 1) I2 _ _ (by omega) (by omega) (by omega) f2 hB2 (hq2.of (fun x _ => ⟨fun z => ⟨z.1, by omega, z.2.2⟩, fun z => ⟨z.1, ?_, z.2.2⟩⟩))
                by_cases ex : x = b
                · subst ex; exact absurd z.2.2 (h0 cg)
                · omega
              · rw [if_neg (fun z => cg ((leq 0 (by omega) (by omega)).mp z))]
                refine ⟨bq, bq, ihm (b + 1) _ _ _ (by omega) (by omega) (by omega) (fun o y e => (am_u_nq (by omega)).trans (f2 o y e)) (fun k' h1 h2 => by rw [am_u_nq (by omega)]; exact hB2 k' h1 h2) ?_⟩
                rw [am_u_same]
                refine (bts_or hq2 (bts_one (by omega))).of (fun x _ => ?_)
                constructor
                · rintro (z | z)
                  · exact ⟨z.1, by omega, z.2.2⟩
                  · subst z; exact ⟨hib, by omega, h1 (by omega)⟩
                · rintro ⟨z1, z2, z3⟩
                  by_cases ex : x = b
                  · exact Or.inr ex
                  · exact Or.inl ⟨z1, by omega, z3⟩
            intro m3
            induction m3 with
            | zero =>
              intro e g hm3 hbe hej hg h0 h1
              refine v134_49 hp ?_
              rw [if_pos ((ni_lt (by omega) (by omega)).mpr (by omega))]
              exact FIN g _ hg (fun cg ⟨e', z⟩ => h0 cg e' (prE_le hG z.2.1).1 (by have := z.1; omega) z) h1
            | succ m3 ihe =>
              intro e g hm3 hbe hej hg h0 h1
              refine v134_49 hp ?_
              rw [if_neg (fun z => absurd ((ni_lt (by omega) (by omega)).mp z) (by omega))]
              by_cases cg : g = 0
              · rw [if_pos ((leq 0 (by omega) (by omega)).mpr cg)]
                refine sc_goeson (d := d) hp hr hF hG hs (stay I2 f2) hTo hpp (by omega) hib hbe (by omega) hj hm (fun k' h1 h2 => hB2 k' h1 h2) (fun z => am_back (v134_74 hp ?_)) (fun z => am_back (v134_74 hp ?_))
                · rw [ni_p1, show (1 : Int32) = ni 1 from rfl]
                  exact ihe (e + 1) 1 (by omega) (by omega) (by omega) (by omega) (fun y => absurd y (by omega)) (fun _ => ⟨e, z⟩)
                · rw [ni_p1, show (0 : Int32) = ni 0 from rfl]
                  refine ihe (e + 1) 0 (by omega) (by omega) (by omega) (by omega) (fun _ e' h2 h3 => ?_) (fun y => absurd y (by omega))
                  by_cases ee : e' = e
                  · subst ee; exact z
                  · exact h0 cg e' h2 (by omega)
              · rw [if_neg (fun z => cg ((leq 0 (by omega) (by omega)).mp z))]
                exact FIN g _ hg (fun y => absurd y cg) h1
          exact LE _ b 0 rfl (Nat.le_refl _) (by omega) (by omega) (fun _ e' h1 h2 => absurd h2 (by omega)) (fun y => absurd y (by omega))
      refine v134_20 hp ?_
      rw [if_neg (ni_nonneg (by omega)), eq']
      refine ⟨bq, LB _ i _ _ _ rfl (Nat.le_refl _) (by omega) (fun o y e => (am_u_nq (by omega)).trans (hf o y e)) (fun k' h1 h2 => by rw [am_u_nq (by omega)]; exact hB k' (by omega) h2) ?_⟩
      rw [am_u_same]
      exact bts_0 (fun x _ z => by omega)
  refine am_mth_of rfl rfl (v134_0 hp ⟨r, hF.1, hrs, ?_⟩)
  rw [show (ni p).toNatClampNeg = p from ni_nat (by omega), q3, g4]
  exact ⟨ni_in (by omega) (by omega), LK _ I _ _ _ _ (Nat.le_refl _) rfl (fun _ _ _ => rfl) (fun k' h1 h2 => absurd h2 (by omega))⟩
end TRC
