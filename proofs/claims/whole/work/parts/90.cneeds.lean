/-! The class: what sorts use, drop, need -/
/-- a middle's turn, up to row m -/
def wsRow (k m : Nat) (R : Nat → Nat → Bool) : Nat → Nat → Bool := foldN m (fun s R => ndStep s k R) R
/-- the middles' turns -/
def wsAll (m : Nat) (R : Nat → Nat → Bool) : Nat → Nat → Bool := foldN m (fun k R => wsRow k 8 R) R
theorem wsRow_p {k m : Nat} {R : Nat → Nat → Bool} (hm : m ≤ 8) : ∀ a u, wsRow k m R a u = if a < m then (R a u || (R a k && R k u)) else R a u :=
  foldN_ind (Q := fun (m : Nat) (y : Nat → Nat → Bool) => ∀ a u, y a u = if a < m then (R a u || (R a k && R k u)) else R a u) (fun a u => (if_neg (by omega)).symm) (fun s y hs hy a u => by
    unfold ndStep
    have hk : ∀ u, y k u = R k u := by
      intro u
      rw [hy]
      split
      · cases h1 : R k u <;> cases h2 : R k k <;> rfl
      · rfl
    by_cases c : a = s
    · subst c
      rw [if_pos rfl, if_pos (by omega), hk, hy, hy, if_neg (by omega), if_neg (by omega)]
    · rw [if_neg c, hy]
      by_cases c2 : a < s
      · rw [if_pos c2, if_pos (by omega)]
      · rw [if_neg c2, if_neg (by omega)])
theorem wsAll_tr {R : Nat → Nat → Bool} : (∀ a u, R a u = true → wsAll 8 R a u = true) ∧ ∀ a j u, a < 8 → j < 8 → wsAll 8 R a j = true → wsAll 8 R j u = true → wsAll 8 R a u = true := by
  have := foldN_ind (n := 8) (f := fun k R => wsRow k 8 R) (a := R) (Q := fun (k : Nat) (y : Nat → Nat → Bool) => (∀ a u, R a u = true → y a u = true) ∧ ∀ a j u, a < 8 → j < 8 → j < k → y a j = true → y j u = true → y a u = true) ⟨fun _ _ h => h, fun a j u _ _ h => absurd h (by omega)⟩ (fun k y hk hy => ?_)
  · exact ⟨this.1, fun a j u h1 h2 => this.2 a j u h1 h2 h2⟩
  · have e : ∀ a u, a < 8 → wsRow k 8 y a u = (y a u || (y a k && y k u)) := fun a u ha => (wsRow_p (Nat.le_refl _) a u).trans (if_pos ha)
    refine ⟨fun a u h => ?_, fun a j u ha hj hjk h1 h2 => ?_⟩
    · rw [wsRow_p (Nat.le_refl _) a u]
      split
      · rw [hy.1 a u h]; rfl
      · exact hy.1 a u h
    · rw [e _ _ ha, Bool.or_eq_true, Bool.and_eq_true] at h1 ⊢
      rw [e _ _ hj, Bool.or_eq_true, Bool.and_eq_true] at h2
      by_cases c : j = k
      · subst c
        rcases h1 with h1 | ⟨h1, -⟩
        · rcases h2 with h2 | ⟨-, h2⟩
          · exact Or.inr ⟨h1, h2⟩
          · exact Or.inr ⟨h1, h2⟩
        · rcases h2 with h2 | ⟨-, h2⟩
          · exact Or.inr ⟨h1, h2⟩
          · exact Or.inr ⟨h1, h2⟩
      · have hy2 : ∀ a u, a < 8 → y a j = true → y j u = true → y a u = true := fun a u ha => hy.2 a j u ha hj (by omega)
        rcases h1 with h1 | ⟨h1, h3⟩
        · rcases h2 with h2 | ⟨h2, h4⟩
          · exact Or.inl (hy2 a u ha h1 h2)
          · exact Or.inr ⟨hy2 a k ha h1 h2, h4⟩
        · rcases h2 with h2 | ⟨h2, h4⟩
          · exact Or.inr ⟨h1, hy2 k u (by omega) h3 h2⟩
          · exact Or.inr ⟨h1, h4⟩
/-- both closures are one -/
theorem ws_nd {w : Nat → Int32} (hG : WG w) {s u : Nat} (hs : s < 8) : wsAll 8 (ndE w) s u = ndW w 8 s u := by
  have hE : ∀ a b, ndE w a b = true → a < 8 ∧ b < 8 := by
    intro a b h
    unfold ndE at h
    rw [Bool.or_eq_true] at h
    rcases h with h | h
    · exact useW_lt hG h
    · exact drpW_lt hG h
  have hsub : ∀ a b, wsAll 8 (ndE w) a b = true → a < 8 ∧ b < 8 ∧ trE (fun a b => ndE w a b = true) a b := by
    refine foldN_ind (n := 8) (f := fun k R => wsRow k 8 R) (a := ndE w) (Q := fun (k : Nat) (y : Nat → Nat → Bool) => ∀ a b, y a b = true → a < 8 ∧ b < 8 ∧ trE (fun a b => ndE w a b = true) a b) (fun a b h => ⟨(hE a b h).1, (hE a b h).2, trE_E (hE a b h).1 (hE a b h).2 h⟩) (fun k y hk hy a b h => ?_)
    rw [wsRow_p (Nat.le_refl _)] at h
    split at h
    · rw [Bool.or_eq_true, Bool.and_eq_true] at h
      rcases h with h | ⟨h1, h2⟩
      · exact hy a b h
      · obtain ⟨f1, f2, f3⟩ := hy _ _ h1
        obtain ⟨g1, g2, g3⟩ := hy _ _ h2
        exact ⟨f1, g2, trE_tr f1 f2 g2 f3 g3⟩
    · exact hy a b h
  rw [Bool.eq_iff_iff]
  constructor
  · intro h
    obtain ⟨f1, f2, f3⟩ := hsub _ _ h
    exact (ndW_iff hG f1 f2).mpr f3
  · intro h
    have hu : u < 8 := ndB.W hG 8 s u h
    exact (ndW_iff hG hs hu).mp h (fun a b => wsAll 8 (ndE w) a b = true) (fun a b _ _ h => wsAll_tr.1 a b h) (fun a b c ha hb hc h1 h2 => wsAll_tr.2 a b c ha hb h1 h2)
/-- one bit, by the shift that takes no sign -/
theorem bI_us {v : Int32} {j : Nat} (hj : j < 32) : ((UInt32.toInt32 (Int32.toUInt32 v >>> (Int32.toUInt32 (ni j) &&& Int32.toUInt32 31))) &&& 1 = 0) ↔ ¬ bI v j = true := by
  have e : ((UInt32.toInt32 (Int32.toUInt32 v >>> (Int32.toUInt32 (ni j) &&& Int32.toUInt32 31))) &&& 1 : Int32).toBitVec = (v.toBitVec >>> j) &&& 1#32 := by
    rw [Int32.toBitVec_and]
    congr 1
    show (Int32.toUInt32 v >>> (Int32.toUInt32 (ni j) &&& Int32.toUInt32 31)).toBitVec = _
    rw [UInt32.toBitVec_shiftRight]
    have : (List.range 32).all (fun j => ((Int32.toUInt32 (ni j) &&& Int32.toUInt32 31).toBitVec.umod 32).toNat == j) = true := by decide +kernel
    have h2 := eq_of_beq (List.all_eq_true.mp this j (List.mem_range.mpr hj))
    show v.toBitVec >>> (BitVec.toNat _) = _
    congr 1
  rw [← Int32.toBitVec_inj, e]
  unfold bI
  have key : (v.toBitVec >>> j).getLsbD 0 = v.toBitVec.getLsbD j := by
    rw [BitVec.getLsbD_ushiftRight]
    simp
  have k1 : (1#32 : BitVec 32).getLsbD 0 = true := by decide
  constructor
  · intro h h2
    have := congrArg (fun z => BitVec.getLsbD z 0) h
    rw [BitVec.getLsbD_and, key, k1, Bool.and_true, h2] at this
    revert this
    decide
  · intro h
    apply BitVec.eq_of_getLsbD_eq
    intro i hi
    by_cases h0 : i = 0
    · subst h0
      rw [BitVec.getLsbD_and, key, (Bool.not_eq_true _).mp h, Bool.false_and]
      decide
    · simp [h0]
section CS1
variable {d0 : Nat} {P : am_O → Prop} {J : am_J} {Pf : am_R} {w : Nat → Int32} {r : Nat}
theorem sj_fill (hp : am_PF Pf) {x L : Nat} (hx : am_SH[x]? = some (.inr (0, L))) (hL : L < 100000) {v : Int32} {I : am_I}
    (kk : ∀ I', (∀ i, i < L → I' x i = v) → (∀ o k, ¬ (o = x ∧ k < L) → I' o k = I o k) → P (.inl none, (am_SH, I', J, Pf), 0, 0)) : am_mth (d0 + 1) 341 [.ref x, .int v] (am_SH, I, J, Pf) P := by
  have LP : ∀ (q : Nat) (I : am_I) (k : Nat), L - k = q → k ≤ L → (∀ I', (∀ i, k ≤ i → i < L → I' x i = v) → (∀ o i, ¬ (o = x ∧ k ≤ i ∧ i < L) → I' o i = I o i) → P (.inl none, (am_SH, I', J, Pf), 0, 0)) → am_go none d0 341 (5, [some (.ref x), some (.int v), some (.int (ni k)), some (.int (ni L))], [], (am_SH, I, J, Pf), 0, 0) P := by
    intro q
    induction q with
    | zero =>
      intro I k hq hk kk
      refine t341_5 hp hx (fun _ => kk I (fun i h1 h2 => absurd h2 (by omega)) (fun _ _ _ => rfl)) (fun z => absurd ((ni_le (by omega) (by omega)).mpr (by omega)) z) (fun z => absurd ((ni_le (by omega) (by omega)).mpr (by omega)) z)
    | succ q ih =>
      intro I k hq hk kk
      refine t341_5 hp hx (fun z => absurd ((ni_le (by omega) (by omega)).mp z) (by omega)) (fun _ => ni_in (by omega) (by omega)) (fun _ => ?_)
      rw [ni_nat (by omega), ni_p1]
      refine ih _ (k + 1) (by omega) (by omega) (fun I' f1 f2 => kk I' (fun i h1 h2 => ?_) (fun o i h => ?_))
      · by_cases c : i = k
        · subst c
          rw [f2 _ _ (by omega), am_u_same]
        · rw [f1 i (by omega) h2]
      · rw [f2 _ _ (by omega), am_u_nq (by omega)]
  refine am_mth_of rfl rfl (t341_0 hp hx ?_)
  exact LP L I 0 rfl (Nat.zero_le _) (fun I' f1 f2 => kk I' (fun i h => f1 i (Nat.zero_le _) h) (fun o k h => f2 o k (by omega)))
theorem srt_sh {r : Nat} (hr : r = 16 ∨ r = 55) : am_SH[r + 15]? = some (.inl 7) ∧ am_SH[r + 16]? = some (.inr (0, 8)) ∧ am_SH[r + 17]? = some (.inr (0, 8)) ∧ am_SH[r + 18]? = some (.inr (0, 8)) ∧ am_SH[r + 19]? = some (.inr (0, 8)) := by rcases hr with rfl | rfl <;> exact ⟨rfl, rfl, rfl, rfl, rfl⟩
theorem btR.o {I I' : am_I} {o : Nat} {f : Nat → Nat → Bool} (h : btR I o f) (e : ∀ k, I' o k = I o k) : btR I' o f := fun a ha t ht => by rw [e]; exact h a ha t ht
theorem sc_needs (hp : am_PF Pf) (hr : r = 16 ∨ r = 55) (hG : WG w) {I : am_I} (hw : cG r I J w)
    (kk : ∀ I', btR I' (r + 16) (useW w) → btR I' (r + 17) (drpW w) → btR I' (r + 18) (ndW w 8) → (∀ o k, o ≠ r + 16 → o ≠ r + 17 → o ≠ r + 18 → I' o k = I o k) → P (.inl none, (am_SH, I', J, Pf), 0, 0)) : am_mth (d0 + 2) 91 [.ref (r + 15), .ref r] (am_SH, I, J, Pf) P := by
  obtain ⟨⟨w0, w0'⟩, ⟨w1, w1'⟩, ⟨w2, w2'⟩, ⟨w3, w3'⟩, ⟨w4, w4'⟩, wk⟩ := id hG.1
  obtain ⟨s15, s16, s17, s18, -⟩ := srt_sh hr
  have hrs := rul_sh hr
  obtain ⟨⟨c0, c1, c2, c3, c4, c5⟩, -, hP, hQ, -, hD⟩ := id hw
  -- the middles
  have WS : ∀ (m : Nat) (I1 : am_I) (R : Nat → Nat → Bool) (k s : Nat) (l1 : Option Value), am_k1 l1 = true → 8 - s = m → s ≤ 8 → k < 8 → btR I1 (r + 18) (wsRow k s R) → (∀ (I' : am_I) (l3 : Option Value), btR I' (r + 18) (wsRow k 8 R) → (∀ o k, o ≠ r + 18 → I' o k = I1 o k) → am_go none (d0 + 1) 91 (199, [some (.ref (r + 15)), l1, some (.int (ni (k + 1))), l3], [], (am_SH, I', J, Pf), 0, 0) P) → am_go none (d0 + 1) 91 (207, [some (.ref (r + 15)), l1, some (.int (ni k)), some (.int (ni s))], [], (am_SH, I1, J, Pf), 0, 0) P := by
    intro m
    induction m with
    | zero =>
      intro I1 R k s l1 hl hm hs hk hB kk
      have : s = 8 := by omega
      subst this
      refine v91_207 hp s15 hl ?_
      rw [if_pos (by decide), ni_p1]
      exact kk I1 _ hB (fun _ _ _ => rfl)
    | succ m ih =>
      intro I1 R k s l1 hl hm hs hk hB kk
      refine v91_207 hp s15 hl ?_
      rw [if_neg (fun z => absurd ((gle 8 (by omega) (by omega)).mp z) (by omega)), show (ni s).toNatClampNeg = s from ni_nat (by omega), show (ni k).toNatClampNeg = k from ni_nat (by omega), ni_p1, show r + 15 + 3 = r + 18 from rfl]
      refine ⟨ni_in (by omega) (by omega), ?_⟩
      have hbit := bI_us (v := I1 (r + 18) s) (j := k) (by omega)
      rw [hB s (by omega) k (by omega)] at hbit
      have e9 : wsRow k (s + 1) R = ndStep s k (wsRow k s R) := rfl
      have goon : ∀ I2, btR I2 (r + 18) (wsRow k (s + 1) R) → (∀ o k, o ≠ r + 18 → I2 o k = I1 o k) → am_go none (d0 + 1) 91 (207, [some (.ref (r + 15)), l1, some (.int (ni k)), some (.int (ni (s + 1)))], [], (am_SH, I2, J, Pf), 0, 0) P := fun I2 h1 h2 => ih I2 R k (s + 1) l1 hl (by omega) (by omega) hk h1 (fun I' l3 g1 g2 => kk I' l3 g1 (fun o k e => (g2 o k e).trans (h2 o k e)))
      by_cases c : wsRow k s R s k = true
      · rw [if_neg (fun z => hbit.mp z c)]
        refine ⟨ni_in (by omega) (by omega), ni_in (by omega) (by omega), ni_in (by omega) (by omega), goon _ (fun a ha u hu => ?_) (fun o k h => am_u_nq (by omega))⟩
        rw [e9]
        unfold ndStep
        by_cases ca : a = s
        · subst ca; rw [am_u_same, if_pos rfl, bI_or, hB a (by omega) u hu, hB k (by omega) u hu, c, Bool.true_and]
        · rw [am_u_nq (by omega), hB a ha u hu, if_neg ca]
      · rw [if_pos (hbit.mpr c)]
        refine goon I1 (hB.of (fun a u ha hu => ?_)) (fun _ _ _ => rfl)
        rw [e9]
        unfold ndStep
        split
        · rename_i ca
          subst ca
          rw [(Bool.not_eq_true _).mp c, Bool.false_and, Bool.or_false]
        · rfl
  have WA : ∀ (m : Nat) (I1 : am_I) (k : Nat) (l1 l3 : Option Value), am_k1 l1 = true → 8 - k = m → k ≤ 8 → btR I1 (r + 18) (wsAll k (ndE w)) → (∀ (I' : am_I), btR I' (r + 18) (wsAll 8 (ndE w)) → (∀ o k, o ≠ r + 18 → I' o k = I1 o k) → P (.inl none, (am_SH, I', J, Pf), 0, 0)) → am_go none (d0 + 1) 91 (199, [some (.ref (r + 15)), l1, some (.int (ni k)), l3], [], (am_SH, I1, J, Pf), 0, 0) P := by
    intro m
    induction m with
    | zero =>
      intro I1 k l1 l3 hl hm hk hB kk
      have : k = 8 := by omega
      subst this
      refine v91_199 hp s15 ?_
      rw [if_pos (by decide)]
      exact kk I1 hB (fun _ _ _ => rfl)
    | succ m ih =>
      intro I1 k l1 l3 hl hm hk hB kk
      refine v91_199 hp s15 ?_
      rw [if_neg (fun z => absurd ((gle 8 (by omega) (by omega)).mp z) (by omega)), show (0 : Int32) = ni 0 from rfl]
      exact WS 8 I1 (wsAll k (ndE w)) k 0 l1 hl rfl (by omega) (by omega) hB (fun I' l3 f1 f2 => ih I' (k + 1) l1 l3 hl (by omega) (by omega) f1 (fun I'' g1 g2 => kk I'' g1 (fun o k e => (g2 o k e).trans (f2 o k e))))
  -- both together
  have JN : ∀ (m : Nat) (I1 : am_I) (s : Nat) (l1 l3 : Option Value), am_k1 l1 = true → 8 - s = m → s ≤ 8 → btR I1 (r + 16) (useW w) → btR I1 (r + 17) (drpW w) → (∀ a t, a < s → t < 32 → bI (I1 (r + 18) a) t = ndE w a t) → (∀ (I' : am_I) (l1 l3 : Option Value), am_k1 l1 = true → btR I' (r + 18) (ndE w) → (∀ o k, o ≠ r + 18 → I' o k = I1 o k) → am_go none (d0 + 1) 91 (199, [some (.ref (r + 15)), l1, some (.int (ni 0)), l3], [], (am_SH, I', J, Pf), 0, 0) P) → am_go none (d0 + 1) 91 (166, [some (.ref (r + 15)), l1, some (.int (ni s)), l3], [], (am_SH, I1, J, Pf), 0, 0) P := by
    intro m
    induction m with
    | zero =>
      intro I1 s l1 l3 hl hm hs hU hB hN kk
      have : s = 8 := by omega
      subst this
      refine v91_166 hp s15 hl ?_
      rw [if_pos (by decide)]
      exact kk I1 l1 _ hl (fun a ha t ht => hN a t ha ht) (fun _ _ _ => rfl)
    | succ m ih =>
      intro I1 s l1 l3 hl hm hs hU hB hN kk
      refine v91_166 hp s15 hl ?_
      rw [if_neg (fun z => absurd ((gle 8 (by omega) (by omega)).mp z) (by omega)), show (ni s).toNatClampNeg = s from ni_nat (by omega), ni_p1]
      refine ⟨ni_in (by omega) (by omega), ni_in (by omega) (by omega), ni_in (by omega) (by omega), ih _ (s + 1) l1 l3 hl (by omega) (by omega) (hU.o (fun k => am_u_nq (by omega))) (hB.o (fun k => am_u_nq (by omega))) (fun a t ha ht => ?_) (fun I' l1 l3 g0 g1 g2 => kk I' l1 l3 g0 g1 (fun o k e => (g2 o k e).trans (am_u_nq (by omega))))⟩
      by_cases c : a = s
      · subst c; rw [am_u_same, bI_or]
        rw [hU a (by omega) t ht, hB a (by omega) t ht]; rfl
      · rw [am_u_nq (by omega)]; exact hN a t (by omega) ht
  -- drops
  have LD : ∀ (m : Nat) (I1 : am_I) (d : Nat) (l3 : Option Value), wN w 4 - d = m → d ≤ wN w 4 → I1 r 16 = ni (wN w 4) → (∀ o k, r + 13 ≤ o → o ≤ r + 14 → I1 o k = I o k) → btR I1 (r + 17) (fun s t => anyB d (drpD w s t)) → (∀ (I' : am_I) (l3 : Option Value), btR I' (r + 17) (drpW w) → (∀ o k, o ≠ r + 17 → I' o k = I1 o k) → am_go none (d0 + 1) 91 (166, [some (.ref (r + 15)), some (.ref r), some (.int (ni 0)), l3], [], (am_SH, I', J, Pf), 0, 0) P) → am_go none (d0 + 1) 91 (128, [some (.ref (r + 15)), some (.ref r), some (.int (ni d)), l3], [], (am_SH, I1, J, Pf), 0, 0) P := by
    intro m
    induction m with
    | zero =>
      intro I1 d l3 hm hd h16 hf hB kk
      have : d = wN w 4 := by omega
      subst this
      refine v91_128 hp s15 hrs ?_
      rw [h16, if_pos ((ni_le (by omega) (by omega)).mpr (by omega))]
      exact kk I1 _ hB (fun _ _ _ => rfl)
    | succ m ih =>
      intro I1 d l3 hm hd h16 hf hB kk
      obtain ⟨g1, g2, g3, g4, g5⟩ := hG.dr (d := d) (by omega)
      obtain ⟨q1, q2⟩ := hD d (by omega)
      refine v91_128 hp s15 hrs ?_
      rw [h16, if_neg (fun z => absurd ((ni_le (by omega) (by omega)).mp z) (by omega)), show (ni d).toNatClampNeg = d from ni_nat (by omega), hf (r + 13) d (by omega) (by omega), hf (r + 14) d (by omega) (by omega), q1, q2, g2, g4, show (ni (wN w (1008 + 4 * d))).toNatClampNeg = wN w (1008 + 4 * d) from ni_nat (by omega), ni_p1]
      refine ⟨ni_in (by omega) (by omega), ni_in (by omega) g1, ni_in (by omega) (by omega), ni_in (by omega) g1, ih _ (d + 1) _ (by omega) (by omega) ((am_u_nq (by omega)).trans h16) (fun o k e1 e2 => (am_u_nq (by omega)).trans (hf o k e1 e2)) ?_ (fun I' l3 f1 f2 => kk I' l3 f1 (fun o k e => (f2 o k e).trans (am_u_nq (by omega))))⟩
      refine hB.set g1 (by omega) (fun a t _ _ => ?_)
      have e : drpD w a t d = (decide (a = wN w (1008 + 4 * d)) && decide (t = wN w (1008 + 4 * d + 1))) := by
        unfold drpD
        rw [decide_eq_decide.mpr (eq_comm (a := a)), decide_eq_decide.mpr (eq_comm (a := t))]
      show (anyB d (drpD w a t) || drpD w a t d) = _
      rw [e]
  -- quotes
  have LQ : ∀ (m : Nat) (I1 : am_I) (q : Nat) (l3 : Option Value), wN w 2 - q = m → q ≤ wN w 2 → (∀ o k, o ≠ r + 16 → o ≠ r + 17 → o ≠ r + 18 → I1 o k = I o k) → btR I1 (r + 16) (fun s t => anyB (wN w 1) (fun p => useP w s t p (wN w (32 + 3 * p + 2))) || anyB q (useQ w s t)) → (∀ (I' : am_I) (l3 : Option Value), btR I' (r + 16) (useW w) → (∀ o k, o ≠ r + 16 → I' o k = I1 o k) → am_go none (d0 + 1) 91 (128, [some (.ref (r + 15)), some (.ref r), some (.int (ni 0)), l3], [], (am_SH, I', J, Pf), 0, 0) P) → am_go none (d0 + 1) 91 (90, [some (.ref (r + 15)), some (.ref r), some (.int (ni q)), l3], [], (am_SH, I1, J, Pf), 0, 0) P := by
    intro m
    induction m with
    | zero =>
      intro I1 q l3 hm hq hf hB kk
      have : q = wN w 2 := by omega
      subst this
      refine v91_90 hp s15 hrs ?_
      rw [hf r 9 (by omega) (by omega) (by omega), c2, w2, if_pos ((ni_le (by omega) (by omega)).mpr (by omega))]
      exact kk I1 _ hB (fun _ _ _ => rfl)
    | succ m ih =>
      intro I1 q l3 hm hq hf hB kk
      obtain ⟨g1, g2, g3, g4⟩ := hG.qu (q := q) (by omega)
      obtain ⟨q1, q2, -⟩ := hQ q (by omega)
      refine v91_90 hp s15 hrs ?_
      rw [hf r 9 (by omega) (by omega) (by omega), c2, w2, if_neg (fun z => absurd ((ni_le (by omega) (by omega)).mp z) (by omega)), show (ni q).toNatClampNeg = q from ni_nat (by omega), hf (r + 8) q (by omega) (by omega) (by omega), hf (r + 9) q (by omega) (by omega) (by omega), q1, q2, g2, g4, show (ni (wN w (972 + 5 * q))).toNatClampNeg = wN w (972 + 5 * q) from ni_nat (by omega), ni_p1]
      refine ⟨ni_in (by omega) (by omega), ni_in (by omega) g1, ni_in (by omega) (by omega), ni_in (by omega) g1, ih _ (q + 1) _ (by omega) (by omega) (fun o k e1 e2 e3 => (am_u_nq (by omega)).trans (hf o k e1 e2 e3)) ?_ (fun I' l3 f1 f2 => kk I' l3 f1 (fun o k e => (f2 o k e).trans (am_u_nq (by omega))))⟩
      refine hB.set g1 (by omega) (fun a t _ _ => ?_)
      rw [show anyB (q + 1) (useQ w a t) = (anyB q (useQ w a t) || useQ w a t q) from rfl, ← Bool.or_assoc]
      congr 1
      unfold useQ
      rw [Bool.eq_iff_iff]
      simp only [Bool.and_eq_true, decide_eq_true_iff, eq_comm]
  -- a production's parts
  have LE : ∀ (m : Nat) (I1 : am_I) (p k : Nat), wN w (32 + 3 * p + 2) - k = m → k ≤ wN w (32 + 3 * p + 2) → p < wN w 1 → (∀ o k, o ≠ r + 16 → o ≠ r + 17 → o ≠ r + 18 → I1 o k = I o k) → btR I1 (r + 16) (fun s t => anyB p (fun p => useP w s t p (wN w (32 + 3 * p + 2))) || useP w s t p k) → (∀ (I' : am_I) (l3 : Option Value), btR I' (r + 16) (fun s t => anyB (p + 1) (fun p => useP w s t p (wN w (32 + 3 * p + 2)))) → (∀ o k, o ≠ r + 16 → I' o k = I1 o k) → am_go none (d0 + 1) 91 (18, [some (.ref (r + 15)), some (.ref r), some (.int (ni (p + 1))), l3], [], (am_SH, I', J, Pf), 0, 0) P) → am_go none (d0 + 1) 91 (30, [some (.ref (r + 15)), some (.ref r), some (.int (ni p)), some (.int (ni (4 * p + k)))], [], (am_SH, I1, J, Pf), 0, 0) P := by
    intro m
    induction m with
    | zero =>
      intro I1 p k hm hk hpp hf hB kk
      have : k = wN w (32 + 3 * p + 2) := by omega
      subst this
      obtain ⟨g1, g2, g3, g4, g5, g6⟩ := hG.pr (p := p) hpp
      obtain ⟨q1, q2, q3, q4⟩ := hP p hpp
      refine v91_30 hp s15 hrs ?_
      rw [show (ni p).toNatClampNeg = p from ni_nat (by omega), hf (r + 4) p (by omega) (by omega) (by omega), q3, g4, show ni p * 4 = ni (4 * p) by rw [Nat.mul_comm]; exact ni_mul p 4, ni_add, if_pos ((ni_le (by omega) (by omega)).mpr (by omega)), ni_p1]
      exact ⟨ni_in (by omega) (by omega), kk I1 _ hB (fun _ _ _ => rfl)⟩
    | succ m ih =>
      intro I1 p k hm hk hpp hf hB kk
      obtain ⟨g1, g2, g3, g4, g5, g6⟩ := hG.pr (p := p) hpp
      obtain ⟨q1, q2, q3, q4⟩ := hP p hpp
      obtain ⟨e1, e2, e3⟩ := q4 k (by omega)
      refine v91_30 hp s15 hrs ?_
      rw [show (ni p).toNatClampNeg = p from ni_nat (by omega), hf (r + 4) p (by omega) (by omega) (by omega), q3, g4, show ni p * 4 = ni (4 * p) by rw [Nat.mul_comm]; exact ni_mul p 4, ni_add, if_neg (fun z => absurd ((ni_le (by omega) (by omega)).mp z) (by omega)), show (ni (4 * p + k)).toNatClampNeg = 4 * p + k from ni_nat (by omega), hf (r + 5) (4 * p + k) (by omega) (by omega) (by omega), e1, hf (r + 2) p (by omega) (by omega) (by omega), q1, g2, show (ni (wN w (32 + 3 * p))).toNatClampNeg = wN w (32 + 3 * p) from ni_nat (by omega), hf (r + 6) (4 * p + k) (by omega) (by omega) (by omega), ni_p1]
      refine ⟨ni_in (by omega) (by omega), ni_in (by omega) (by omega), ?_⟩
      have e9 : ∀ s t, useP w s t p (k + 1) = (useP w s t p k || (decide (wN w (32 + 3 * p) = s) && (decide (w (eP p k) = 1) && decide (wN w (eP p k + 1) = t)))) := by
        intro s t
        unfold useP
        show (_ && (anyB k _ || _)) = _
        rw [Bool.and_or_distrib_left]
      by_cases c : w (eP p k) = 1
      · rw [if_pos c]
        obtain ⟨h1, h2⟩ := WG.so (g6 k (by omega)) c
        rw [e2 (by rw [c]; decide), h2]
        refine ⟨ni_in (by omega) (by omega), ni_in (by omega) g1, ni_in (by omega) (by omega), ni_in (by omega) g1, ih _ p (k + 1) (by omega) (by omega) hpp (fun o k e1 e2 e3 => (am_u_nq (by omega)).trans (hf o k e1 e2 e3)) ?_ (fun I' l3 f1 f2 => kk I' l3 f1 (fun o k e => (f2 o k e).trans (am_u_nq (by omega))))⟩
        refine hB.set g1 (by omega) (fun a t _ _ => ?_)
        rw [e9, ← Bool.or_assoc]
        congr 1
        rw [Bool.eq_iff_iff]
        simp only [Bool.and_eq_true, decide_eq_true_iff, c, true_and]
        simp only [eq_comm]
      · rw [if_neg c]
        refine ih I1 p (k + 1) (by omega) (by omega) hpp hf (hB.of (fun a t _ _ => ?_)) kk
        rw [e9, decide_eq_false c, Bool.false_and, Bool.and_false, Bool.or_false]
  have LP : ∀ (m : Nat) (I1 : am_I) (p : Nat) (l3 : Option Value), wN w 1 - p = m → p ≤ wN w 1 → (∀ o k, o ≠ r + 16 → o ≠ r + 17 → o ≠ r + 18 → I1 o k = I o k) → btR I1 (r + 16) (fun s t => anyB p (fun p => useP w s t p (wN w (32 + 3 * p + 2)))) → (∀ (I' : am_I) (l3 : Option Value), btR I' (r + 16) (fun s t => anyB (wN w 1) (fun p => useP w s t p (wN w (32 + 3 * p + 2)))) → (∀ o k, o ≠ r + 16 → I' o k = I1 o k) → am_go none (d0 + 1) 91 (90, [some (.ref (r + 15)), some (.ref r), some (.int (ni 0)), l3], [], (am_SH, I', J, Pf), 0, 0) P) → am_go none (d0 + 1) 91 (18, [some (.ref (r + 15)), some (.ref r), some (.int (ni p)), l3], [], (am_SH, I1, J, Pf), 0, 0) P := by
    intro m
    induction m with
    | zero =>
      intro I1 p l3 hm hpp hf hB kk
      have : p = wN w 1 := by omega
      subst this
      refine v91_18 hp s15 hrs ?_
      rw [hf r 2 (by omega) (by omega) (by omega), c1, w1, if_pos ((ni_le (by omega) (by omega)).mpr (by omega))]
      exact kk I1 _ hB (fun _ _ _ => rfl)
    | succ m ih =>
      intro I1 p l3 hm hpp hf hB kk
      refine v91_18 hp s15 hrs ?_
      rw [hf r 2 (by omega) (by omega) (by omega), c1, w1, if_neg (fun z => absurd ((ni_le (by omega) (by omega)).mp z) (by omega)), show ni p * 4 = ni (4 * p + 0) by rw [Nat.add_zero, Nat.mul_comm]; exact ni_mul p 4]
      refine LE _ I1 p 0 rfl (Nat.zero_le _) (by omega) hf (hB.of (fun a t _ _ => ?_)) (fun I' l3 f1 f2 => ih I' (p + 1) l3 (by omega) (by omega) (fun o k e1 e2 e3 => (f2 o k e1).trans (hf o k e1 e2 e3)) f1 (fun I'' l3 g1 g2 => kk I'' l3 g1 (fun o k e => (g2 o k e).trans (f2 o k e))))
      unfold useP
      rw [show ∀ f, anyB 0 f = false from fun _ => rfl, Bool.and_false, Bool.or_false]
  -- all
  refine am_mth_of rfl rfl (v91_0 hp s15 hrs ?_)
  refine sj_fill (d0 := d0) hp s16 (by omega) (fun I1 a1 a2 => am_back (v91_8 hp s15 hrs ?_))
  refine sj_fill (d0 := d0) hp s17 (by omega) (fun I2 b1 b2 => am_back (v91_16 hp s15 hrs ?_))
  have f2 : ∀ o k, o ≠ r + 16 → o ≠ r + 17 → I2 o k = I o k := fun o k e1 e2 => (b2 o k (by omega)).trans (a2 o k (by omega))
  rw [show (0 : Int32) = ni 0 from rfl]
  refine LP _ I2 0 _ rfl (Nat.zero_le _) (fun o k e1 e2 _ => f2 o k e1 e2) (fun a ha t ht => ?_) (fun I3 l3 g1 g2 => ?_)
  · rw [b2 _ _ (by omega), a1 a ha]; exact bI_0
  refine LQ _ I3 0 _ rfl (Nat.zero_le _) (fun o k e1 e2 _ => (g2 o k e1).trans (f2 o k e1 e2)) (g1.of (fun a t _ _ => ?_)) (fun I4 l3 h1 h2 => ?_)
  · rw [show ∀ f, anyB 0 f = false from fun _ => rfl, Bool.or_false]
  have f4 : ∀ o k, o ≠ r + 16 → o ≠ r + 17 → I4 o k = I o k := fun o k e1 e2 => ((h2 o k e1).trans (g2 o k e1)).trans (f2 o k e1 e2)
  have f17 : ∀ k, k < 8 → I4 (r + 17) k = 0 := fun k hk => by rw [h2 _ _ (by omega), g2 _ _ (by omega)]; exact b1 k hk
  refine LD _ I4 0 _ rfl (Nat.zero_le _) ((f4 _ _ (by omega) (by omega)).trans (c4.trans w4)) (fun o k e1 e2 => f4 o k (by omega) (by omega)) (fun a ha t ht => ?_) (fun I5 l3 j1 j2 => ?_)
  · rw [f17 a ha]; exact bI_0
  refine JN 8 I5 0 _ _ rfl rfl (by omega) (h1.o (fun k => j2 _ _ (by omega))) j1 (fun a t ha => absurd ha (by omega)) (fun I6 l1 l3 hl m1 m2 => ?_)
  refine WA 8 I6 0 l1 _ hl rfl (by omega) m1 (fun I7 n1 n2 => kk I7 (h1.o (fun k => ?_)) (j1.o (fun k => ?_)) (n1.of (fun a t ha _ => (ws_nd hG ha).symm)) (fun o k e1 e2 e3 => ?_))
  · rw [n2 _ _ (by omega), m2 _ _ (by omega), j2 _ _ (by omega)]
  · rw [n2 _ _ (by omega), m2 _ _ (by omega)]
  · rw [n2 _ _ e3, m2 _ _ e3, j2 _ _ e2, f4 _ _ e1 e2]
end CS1
