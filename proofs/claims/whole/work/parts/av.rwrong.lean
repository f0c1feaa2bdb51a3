/-! Why a text is not of a sort: the reference's answer -/
theorem and1 (x : Int32) : x &&& 1 = 0 ∨ x &&& 1 = 1 := by
  have e : x &&& 1 = ni ((x.toBitVec &&& 1#32).toNat) := by
    rw [← Int32.toBitVec_inj, Int32.toBitVec_and]
    show _ = BitVec.ofNat 32 _
    rw [BitVec.ofNat_toNat]
    simp
  have h : (x.toBitVec &&& 1#32).toNat < 2 := by
    rw [BitVec.toNat_and]
    have := Nat.and_le_right (n := x.toBitVec.toNat) (m := (1#32 : BitVec 32).toNat)
    have e : (1#32 : BitVec 32).toNat = 1 := by decide
    omega
  generalize (x.toBitVec &&& 1#32).toNat = c at e h
  rw [e]
  have : c = 0 ∨ c = 1 := by omega
  rcases this with rfl | rfl
  · exact Or.inl rfl
  · exact Or.inr rfl
theorem bts_s0 {v : Int32} {P : Nat → Prop} (h : bts v P) {j : Nat} (hj : j < 32) : (((v >>> (ni j &&& 31)) &&& 1) = 0) ↔ ¬ P j := by
  rw [← bts_sh h hj]
  rcases and1 (v >>> (ni j &&& 31)) with z | z
  · rw [z]; decide
  · rw [z]; decide
/-- what looking for a cause changes -/
def rCf (d : Nat) (I I' : am_I) : Prop := ∀ o k, ¬ (o = 183 ∧ 25 * (d + 1) ≤ k) → ¬ (o = 184 ∧ 5000 * (d + 1) ≤ k) → ¬ ((o = 185 ∨ o = 186) ∧ 96 * (d + 1) ≤ k) → ¬ (o = 187 ∨ o = 188 ∨ o = 189) → ¬ (o = 163 ∧ k = 48) → I' o k = I o k
theorem rCf.trans {d : Nat} {I I' I'' : am_I} (h : rCf d I I') (g : rCf d I' I'') : rCf d I I'' := fun o k e1 e2 e3 e4 e5 => (g o k e1 e2 e3 e4 e5).trans (h o k e1 e2 e3 e4 e5)
theorem rCf.rfl' {d : Nat} {I : am_I} : rCf d I I := fun _ _ _ _ _ _ _ => rfl
theorem rCf.ofU {d : Nat} {I I' : am_I} (h : rUf d I I') : rCf d I I' := fun o k e1 e2 e3 e4 e5 => h o k (by omega)
theorem rCf.ofS {d : Nat} {I I' : am_I} (h : rSf (d + 1) I I') : rCf d I I' := fun o k e1 e2 e3 e4 e5 => h o k (by omega) e2 e3 e4 e5
/-- what telling wrongs changes, from a level on -/
def rDf (d : Nat) (I I' : am_I) : Prop := ∀ o k, ¬ (o = 183 ∧ 25 * (d + 1) ≤ k) → ¬ (o = 184 ∧ 5000 * (d + 1) ≤ k) → ¬ ((o = 185 ∨ o = 186) ∧ 96 * (d + 1) ≤ k) → ¬ (o = 187 ∨ o = 188 ∨ o = 189) → ¬ (o = 199 ∧ 3 * d ≤ k) → ¬ (o = 163 ∧ k = 48) → I' o k = I o k
theorem rDf.trans {d : Nat} {I I' I'' : am_I} (h : rDf d I I') (g : rDf d I' I'') : rDf d I I'' := fun o k e1 e2 e3 e4 e5 e6 => (g o k e1 e2 e3 e4 e5 e6).trans (h o k e1 e2 e3 e4 e5 e6)
theorem rCf.d {d : Nat} {I I' : am_I} (h : rCf d I I') : rDf d I I' := fun o k e1 e2 e3 e4 e5 e6 => h o k e1 e2 e3 e4 e6
theorem rDf.lower {d e : Nat} {I I' : am_I} (h : rDf e I I') (hd : d ≤ e) : rDf d I I' := fun o k e1 e2 e3 e4 e5 e6 => h o k (by omega) (by omega) (by omega) e4 (by omega) e6
theorem rTd.ofD {d : Nat} {I I' : am_I} {T : TX} (h : rTd d I T) (f : rDf d I I') : rTd d I' T := by
  have h24 := h.2.1
  exact ⟨by rw [f _ _ (by omega) (by omega) (by omega) (by omega) (by omega) (by omega)]; exact h.1, h.2.1, fun i hi => by rw [f _ _ (by omega) (by omega) (by omega) (by omega) (by omega) (by omega)]; exact h.2.2 i hi⟩
theorem rTd.ofC {d : Nat} {I I' : am_I} {T : TX} (h : rTd d I T) (f : rCf d I I') : rTd d I' T := h.ofD f.d
theorem rQ.aft {I I' : am_I} {w : Nat → Int32} {T : TX} (hG : WG w) (h : rQ I w T) (hC : rCa I' w) (f' : rDf 0 I I') : rQ I' w T := by
  have w2' := hG.1.2.2.1.2
  obtain ⟨h1, h2, h3, h4, h5, h6⟩ := h
  have f : ∀ o k, ¬ (o = 183 ∧ 25 ≤ k) → ¬ (o = 184 ∧ 5000 ≤ k) → ¬ ((o = 185 ∨ o = 186) ∧ 96 ≤ k) → ¬ (187 ≤ o ∧ o ≤ 189) → o ≠ 199 → ¬ (o = 163 ∧ k = 48) → I' o k = I o k := fun o k e1 e2 e3 e4 e5 e6 => f' o k (by omega) (by omega) (by omega) (by omega) (by omega) e6
  refine ⟨by rw [← h1]; funext y; exact f _ _ (by omega) (by omega) (by omega) (by omega) (by omega) (by omega), fun s h8 => by rw [f _ _ (by omega) (by omega) (by omega) (by omega) (by omega) (by omega)]; exact h2 s h8, ⟨by rw [f _ _ (by omega) (by omega) (by omega) (by omega) (by omega) (by omega)]; exact h3.1, h3.2.1, fun i hi => by rw [f _ _ (by omega) (by omega) (by omega) (by omega) (by omega) (by omega)]; exact h3.2.2 i hi⟩, h4, hC, ?_⟩
  rw [f 163 46 (by omega) (by omega) (by omega) (by omega) (by omega) (by omega)]
  rcases h6 with z | ⟨g1, ⟨H, b1, b2, b3⟩, b4⟩
  · exact Or.inl z
  · exact Or.inr ⟨g1.ofD f', ⟨H, fun c hc => by rw [f _ _ (by omega) (by omega) (by omega) (by omega) (by omega) (by omega)]; exact b1 c hc, b2, b3⟩, fun q i hq hi => by rw [f _ _ (by omega) (by omega) (by omega) (by omega) (by omega) (by omega), f _ _ (by omega) (by omega) (by omega) (by omega) (by omega) (by omega)]; exact b4 q i hq hi⟩
section WRR
variable {P : am_O → Prop} {J : am_J} {Pf : am_R} {T : TX} {w : Nat → Int32}
theorem sr_cause (hp : am_PF Pf) (hG : WG w) (hs : sndW w) {k d : Nat} (hdk : d + (k + 1) = 3) {I : am_I} (hg : I 167 = w) (hly : nmR I 171 (lyW w 64)) (hT : rTd d I T) (hTo : txOK T) (hC : rCa I w) {D : Nat} (hD : 80 ≤ D) (kk : oq (csW w (k + 1) T) (∀ I', rCa I' w → rCf d I I' → P (.inl (some (.int (-1))), (am_SH, I', J, Pf), 0, 0)) (fun B q => ∀ I', rTd (d + 1) I' B → txOK B → q < wN w 2 → rCa I' w → rCf d I I' → P (.inl (some (.int (ni (wN w (972 + 5 * q + 1))))), (am_SH, I', J, Pf), 0, 0))) : am_mth D 307 [.ref 163, .int (ni d)] (am_SH, I, J, Pf) P := by
  obtain ⟨D', rfl⟩ : ∃ D', D = D' + 4 := ⟨D - 4, by omega⟩
  obtain ⟨-, -, ⟨w2, w2'⟩, -⟩ := id hG.1
  have h24 := hT.2.1
  have g7 : ∀ {I1 : am_I}, rCf d I I1 → I1 167 = w := fun f => by
    rw [← hg]; funext y; exact f _ _ (by omega) (by omega) (by omega) (by omega) (by omega)
  have LQ : ∀ (m q i : Nat) (I1 : am_I) (l4 : Option Value), wN w 2 - q = m → q ≤ wN w 2 → i < T.1 → rCf d I I1 → rCa I1 w → oq (fqB w (k + 1) T i m q) (∀ I' l3 l4, rCf d I I' → rCa I' w → am_go none (D' + 3) 307 (2, [some (.ref 163), some (.int (ni d)), some (.int (ni (i + 1))), l3, l4], [], (am_SH, I', J, Pf), 0, 0) P) (fun B q => ∀ I', rTd (d + 1) I' B → txOK B → q < wN w 2 → rCa I' w → rCf d I I' → P (.inl (some (.int (ni (wN w (972 + 5 * q + 1))))), (am_SH, I', J, Pf), 0, 0)) → am_go none (D' + 3) 307 (18, [some (.ref 163), some (.int (ni d)), some (.int (ni i)), some (.int (ni q)), l4], [], (am_SH, I1, J, Pf), 0, 0) P := by
    intro m
    induction m with
    | zero =>
      intro q i I1 l4 hm hq hi hf hC1 kk
      have e : q = wN w 2 := by omega
      subst e
      refine v307_18 hp ?_
      rw [g7 hf, w2, if_pos ((ni_le (by omega) (by omega)).mpr (Nat.le_refl _)), ni_p1]
      exact kk I1 _ _ hf hC1
    | succ m ih =>
      intro q i I1 l4 hm hq hi hf hC1 kk
      have hq2 : q < wN w 2 := by omega
      have hT1 : rTd d I1 T := hT.ofC hf
      have ht8 := (hG.qu hq2).2.2.1
      have nx : ∀ I2 l4, rCf d I I2 → rCa I2 w → bdO w (k + 1) T q i = none → am_go none (D' + 3) 307 (18, [some (.ref 163), some (.int (ni d)), some (.int (ni i)), some (.int (ni q + 1)), l4], [], (am_SH, I2, J, Pf), 0, 0) P := fun I2 l4 f2 c2 hb => by
        rw [fqB_n hb] at kk
        rw [ni_p1]
        exact ih (q + 1) i I2 _ (by omega) (by omega) hi f2 c2 kk
      refine v307_18 hp ?_
      rw [g7 hf, w2, if_neg (fun z => absurd ((ni_le (by omega) (by omega)).mp z) (by omega)), show (5 : Int32) = ni 5 from rfl, ni_mul, show (972 : Int32) + ni (5 * q) = ni (972 + 5 * q) from ni_add 972 _, ni_p1, show (ni (972 + 5 * q + 1)).toNatClampNeg = 972 + 5 * q + 1 from ni_nat (by omega), (hG.qu hq2).2.2.2]
      refine ⟨ni_in (by omega) (by omega), ?_⟩
      refine sr_unq (d0 := D' + 1) hp hG (by omega) (g7 hf) hT1 hTo hq2 (show i < 100 by omega) ?_
      cases hu : unq w T q i with
      | none =>
        intro I2 f2
        refine am_back (v307_51 hp ?_)
        rw [if_pos rfl]
        exact nx I2 _ (hf.trans (rCf.ofU f2)) (hC1.of (f2 _ _ (by omega)) (fun c => f2 _ _ (by omega))) (bdO_n hu)
      | some z =>
        obtain ⟨B, e⟩ := z
        intro I2 hB hBo he f2
        have hf2 := hf.trans (rCf.ofU f2)
        refine am_back (v307_51 hp ?_)
        rw [if_neg (ni_neg1 (by omega)), ni_p1]
        refine rSRT_all hp hG hs (k := k + 1) (d := d + 1) (by omega) (by omega) _ (D' + 3) I2 B (by omega) (g7 hf2) (fun s h8 => by rw [hf2 _ _ (by omega) (by omega) (by omega) (by omega) (by omega)]; exact hly s h8) hB hBo (hC1.of (f2 _ _ (by omega)) (fun c => f2 _ _ (by omega))) (fun I3 v hv c3 f3 => am_back (v307_62 hp ?_))
        have hf3 : rCf d I I3 := hf2.trans (rCf.ofS f3)
        by_cases cb : bqx w (k + 1) B (wN w (972 + 5 * q + 1))
        · rw [if_neg (fun z => (bts_s0 hv (by omega)).mp z ⟨ht8, cb⟩)]
          refine nx I3 _ hf3 c3 ?_
          unfold bdO
          rw [hu]
          exact cif_t cb
        · rw [if_pos ((bts_s0 hv (by omega)).mpr (fun z => cb z.2))]
          have hb : bdO w (k + 1) T q i = some B := bdO_b hu cb
          rw [fqB_s hb] at kk
          refine sr_unq (d0 := D' + 1) hp hG (by omega) (g7 hf3) (hT.ofC hf3) hTo hq2 (show i < 100 by omega) ?_
          rw [hu]
          intro I4 hB4 _ _ f4
          refine am_back (v307_77 hp ?_)
          exact kk I4 hB4 hBo hq2 (c3.of (f4 _ _ (by omega)) (fun c => f4 _ _ (by omega))) (hf3.trans (rCf.ofU f4))
  have LI : ∀ (m i : Nat) (I1 : am_I) (l3 l4 : Option Value), T.1 - i = m → i ≤ T.1 → rCf d I I1 → rCa I1 w → oq (fiB w (k + 1) T m i) (∀ I', rCa I' w → rCf d I I' → P (.inl (some (.int (-1))), (am_SH, I', J, Pf), 0, 0)) (fun B q => ∀ I', rTd (d + 1) I' B → txOK B → q < wN w 2 → rCa I' w → rCf d I I' → P (.inl (some (.int (ni (wN w (972 + 5 * q + 1))))), (am_SH, I', J, Pf), 0, 0)) → am_go none (D' + 3) 307 (2, [some (.ref 163), some (.int (ni d)), some (.int (ni i)), l3, l4], [], (am_SH, I1, J, Pf), 0, 0) P := by
    intro m
    induction m with
    | zero =>
      intro i I1 l3 l4 hm hi hf hC1 kk
      refine v307_2 hp ?_
      rw [show (25 : Int32) = ni 25 from rfl, ni_mul, ni_nat (show 25 * d < 2147483648 by omega), (hT.ofC hf).1, if_pos ((ni_le (by omega) (by omega)).mpr (by omega))]
      exact ⟨ni_in (by omega) (by omega), kk I1 hC1 hf⟩
    | succ m ih =>
      intro i I1 l3 l4 hm hi hf hC1 kk
      refine v307_2 hp ?_
      rw [show (25 : Int32) = ni 25 from rfl, ni_mul, ni_nat (show 25 * d < 2147483648 by omega), (hT.ofC hf).1, if_neg (fun z => absurd ((ni_le (by omega) (by omega)).mp z) (by omega)), if_neg (fun z => absurd ((gle 3 (by omega) (by omega)).mp z) (by omega)), show (0 : Int32) = ni 0 from rfl]
      refine ⟨ni_in (by omega) (by omega), LQ _ 0 i I1 _ rfl (Nat.zero_le _) (by omega) hf hC1 ?_⟩
      rw [Nat.sub_zero]
      cases hb : fqB w (k + 1) T i (wN w 2) 0 with
      | none =>
        rw [fiB_n hb] at kk
        exact fun I2 l3 l4 f2 c2 => ih (i + 1) I2 l3 l4 (by omega) (by omega) f2 c2 kk
      | some z =>
        rw [fiB_s hb] at kk
        exact kk
  refine am_mth_of rfl rfl (v307_0 hp ?_)
  rw [show (0 : Int32) = ni 0 from rfl]
  exact LI _ 0 I _ _ rfl (Nat.zero_le _) rCf.rfl' hC kk
/-- how high a piece of a level is, in the row -/
theorem rSd.h {d k : Nat} {I : am_I} (h : rSd d I w k T) (h24 : T.1 ≤ 24) {s j : Nat} (s8 : s < 8) (hj : j ≤ T.1) : I 184 (5000 * d + 625 * s + j) = ni (HHx w k T s 0 j) ∧ HHx w k T s 0 j ≤ 5000 := by
  obtain ⟨⟨H, b1, b2, b3⟩, -⟩ := h
  have hc : 625 * s + j < 5000 := by omega
  have := b3 s 0 j s8 (by omega) (by omega)
  rw [if_pos ⟨Nat.zero_le _, hj⟩] at this
  have e : hC H s 0 j = H (625 * s + j) := rfl
  rw [e] at this
  rw [show 5000 * d + 625 * s + j = 5000 * d + (625 * s + j) by omega, b1 _ hc, ← this]
  exact ⟨rfl, b2 _ hc⟩
theorem ixD {d s j : Nat} (hd : d ≤ 3) (s8 : s < 8) (hj : j < 25) : ((((ni d * 8) + ni s) * 625) + ((0 : Int32) * 25)) + ni j = ni (5000 * d + 625 * s + j) ∧ am_in (ni (5000 * d + 625 * s + j)) 20000 = true ∧ (ni (5000 * d + 625 * s + j)).toNatClampNeg = 5000 * d + 625 * s + j := by
  refine ⟨?_, ni_in (by omega) (by omega), ni_nat (by omega)⟩
  rw [show (25 : Int32) = ni 25 from rfl, show (625 : Int32) = ni 625 from rfl, show (8 : Int32) = ni 8 from rfl, show (0 : Int32) * ni 25 = ni 0 from rfl, ni_mul, ni_add, ni_mul, ni_add, ni_add]
  congr 1
  omega
theorem sr_laysw (hp : am_PF Pf) (hG : WG w) (hs : sndW w) {D : Nat} (hD : 100 ≤ D) : ∀ (k d : Nat), d + k = 3 → ∀ (s : Nat) (T : TX) (I : am_I) (l1 l4 : Option Value), am_k1 l1 = true → I 167 = w → nmR I 171 (lyW w 64) → rTd d I T → txOK T → rCa I w → rSd d I w k T → s < 8 → (∀ I', wrH 199 I' d (wrL w k T s) → rCa I' w → rDf d I I' → P (.inl (some (.int (ni (d + (wrL w k T s).length)))), (am_SH, I', J, Pf), 0, 0)) → am_go none D 308 (25, [some (.ref 163), l1, some (.int (ni d)), some (.int (ni s)), l4], [], (am_SH, I, J, Pf), 0, 0) P := by
  obtain ⟨D', rfl⟩ : ∃ D', D = D' + 6 := ⟨D - 6, by omega⟩
  obtain ⟨-, -, ⟨w2, w2'⟩, -⟩ := id hG.1
  -- the loop for the greatest end; what comes behind it
  have GE : ∀ (k d : Nat), d + k = 3 → ∀ (s : Nat) (T : TX) (I : am_I) (l1 : Option Value), rTd d I T → rSd d I w k T → s < 8 → ∀ j, j ≤ T.1 → am_go none (D' + 6) 308 (60, [some (.ref 163), l1, some (.int (ni d)), some (.int (ni s)), some (.int (ni (gtE w k T s j)))], [], (am_SH, I, J, Pf), 0, 0) P → am_go none (D' + 6) 308 (37, [some (.ref 163), l1, some (.int (ni d)), some (.int (ni s)), some (.int (ni j))], [], (am_SH, I, J, Pf), 0, 0) P := by
    intro k d hdk s T I l1 hT hS h8 j
    have h24 := hT.2.1
    induction j with
    | zero =>
      intro hj kk
      refine v308_37 hp ?_
      rw [if_pos (show ni 0 ≤ (0 : Int32) from by decide)]
      exact kk
    | succ j ih =>
      intro hj kk
      have hh := hS.h h24 h8 hj
      have ix := ixD (show d ≤ 3 by omega) h8 (show j + 1 < 25 by omega)
      refine v308_37 hp ?_
      rw [if_neg (fun z => absurd ((lle 0 (by omega) (by omega)).mp z) (by omega)), ix.1, ix.2.2, hh.1]
      refine ⟨ix.2.1, ?_⟩
      have e : gtE w k T s (j + 1) = if 0 < HHx w k T s 0 (j + 1) then j + 1 else gtE w k T s j := rfl
      rw [e] at kk
      by_cases c : 0 < HHx w k T s 0 (j + 1)
      · rw [if_pos c] at kk
        rw [if_neg (fun z => absurd ((lle 0 (by omega) (by omega)).mp z) (by omega))]
        exact kk
      · rw [if_neg c] at kk
        rw [if_pos ((lle 0 (by omega) (by omega)).mpr (by omega)), show ni (j + 1) + -1 = ni j by
          rw [← Int32.sub_eq_add_neg]; exact ni_sub (a := j + 1) (b := 1) (by omega)]
        exact ih (by omega) kk
  intro k
  induction k with
  | zero =>
    intro d hd s T I l1 l4 hl1 hg hly hT hTo hC hS h8 kk
    obtain rfl : d = 3 := by omega
    have h24 := hT.2.1
    refine v308_25 hp ?_
    rw [if_neg (ni_neg1 (by omega)), show (25 : Int32) = ni 25 from rfl, ni_mul, ni_nat (show 25 * 3 < 2147483648 by omega), hT.1]
    refine ⟨ni_in (by omega) (by omega), GE 0 3 rfl s T I l1 hT hS h8 T.1 (Nat.le_refl _) (v308_60 hp ?_)⟩
    rw [show ((3 : Int32) * ni 3).toNatClampNeg = 9 from by decide, show ((3 : Int32) * ni 3 + 1).toNatClampNeg = 10 from by decide, show ((3 : Int32) * ni 3 + 2).toNatClampNeg = 11 from by decide, show ((25 : Int32) * ni 3).toNatClampNeg = 25 * 3 from by decide, hT.1]
    refine ⟨by decide, by decide, by decide, by decide, ?_⟩
    have hf1 : ∀ o c, o ≠ 199 → (am_u (am_u (am_u I 199 9 (ni (gtE w 0 T s T.1))) 199 10 (ni s)) 199 11 (ni T.1)) o c = I o c := fun o c e => by rw [am_u_nq (by omega), am_u_nq (by omega), am_u_nq (by omega)]
    refine am_mth_of rfl rfl (v307_0 hp (v307_2 hp ?_))
    rw [show ((25 : Int32) * ni 3).toNatClampNeg = 25 * 3 from by decide, hf1 _ _ (by omega), hT.1]
    have fin : am_go none (D' + 6) 308 (101, [some (.ref 163), l1, some (.int (ni 3)), some (.int (ni s)), some (.int (ni (gtE w 0 T s T.1)))], [.int (-1)], (am_SH, am_u (am_u (am_u I 199 9 (ni (gtE w 0 T s T.1))) 199 10 (ni s)) 199 11 (ni T.1), J, Pf), 0, 0) P := by
      refine v308_101 hp hl1 ?_
      rw [if_pos rfl, ni_p1]
      refine v308_25 hp ?_
      rw [if_pos rfl]
      refine kk _ (wrH.cons ?_ ?_ ?_ wrH.nil) (hC.of (hf1 _ _ (by omega)) (fun c => hf1 _ _ (by omega))) (fun o c e1 e2 e3 e4 e5 e6 => by rw [am_u_nq (by omega), am_u_nq (by omega), am_u_nq (by omega)])
      · rw [am_u_nq (by omega), am_u_nq (by omega)]; exact am_u_same
      · rw [am_u_nq (by omega)]; exact am_u_same
      · exact am_u_same
    refine ⟨by decide, ?_⟩
    by_cases c : ni T.1 ≤ (0 : Int32)
    · rw [if_pos c]; exact am_back fin
    · rw [if_neg c, if_pos (by decide)]; exact am_back fin
  | succ k ih =>
    intro d hd s T I l1 l4 hl1 hg hly hT hTo hC hS h8 kk
    have h24 := hT.2.1
    have hlen : ni (gtE w (k + 1) T s T.1) = ni (gtE w (k + 1) T s T.1) := rfl
    refine v308_25 hp ?_
    rw [if_neg (ni_neg1 (by omega)), show (25 : Int32) = ni 25 from rfl, ni_mul, ni_nat (show 25 * d < 2147483648 by omega), hT.1]
    refine ⟨ni_in (by omega) (by omega), GE (k + 1) d (by omega) s T I l1 hT hS h8 T.1 (Nat.le_refl _) (v308_60 hp ?_)⟩
    rw [show (3 : Int32) = ni 3 from rfl, show (25 : Int32) = ni 25 from rfl, ni_mul, ni_mul, ni_p1, ni_p2, ni_nat (show 3 * d < 2147483648 by omega), ni_nat (show 3 * d + 1 < 2147483648 by omega), ni_nat (show 3 * d + 2 < 2147483648 by omega), ni_nat (show 25 * d < 2147483648 by omega), hT.1]
    have hf1 : ∀ o c, ¬ (o = 199 ∧ 3 * d ≤ c) → (am_u (am_u (am_u I 199 (3 * d) (ni (gtE w (k + 1) T s T.1))) 199 (3 * d + 1) (ni s)) 199 (3 * d + 2) (ni T.1)) o c = I o c := fun o c e => by rw [am_u_nq (by omega), am_u_nq (by omega), am_u_nq (by omega)]
    have hg0 : (am_u (am_u (am_u I 199 (3 * d) (ni (gtE w (k + 1) T s T.1))) 199 (3 * d + 1) (ni s)) 199 (3 * d + 2) (ni T.1)) 199 (3 * d) = ni (gtE w (k + 1) T s T.1) := by rw [am_u_nq (by omega), am_u_nq (by omega)]; exact am_u_same
    have hg1 : (am_u (am_u (am_u I 199 (3 * d) (ni (gtE w (k + 1) T s T.1))) 199 (3 * d + 1) (ni s)) 199 (3 * d + 2) (ni T.1)) 199 (3 * d + 1) = ni s := by rw [am_u_nq (by omega)]; exact am_u_same
    have hg2 : (am_u (am_u (am_u I 199 (3 * d) (ni (gtE w (k + 1) T s T.1))) 199 (3 * d + 1) (ni s)) 199 (3 * d + 2) (ni T.1)) 199 (3 * d + 2) = ni T.1 := am_u_same
    generalize am_u (am_u (am_u I 199 (3 * d) (ni (gtE w (k + 1) T s T.1))) 199 (3 * d + 1) (ni s)) 199 (3 * d + 2) (ni T.1) = I1 at hf1 hg0 hg1 hg2 ⊢
    have hC1 : rCa I1 w := hC.of (hf1 _ _ (by omega)) (fun c => hf1 _ _ (by omega))
    have hfc : rDf d I I1 := fun o c e1 e2 e3 e4 e5 e6 => hf1 o c (by omega)
    have eL : wrL w (k + 1) T s = (gtE w (k + 1) T s T.1, s, T.1) :: (match csW w (k + 1) T with
      | none => []
      | some z => wrL w k z.1 (wN w (972 + 5 * z.2 + 1))) := rfl
    have hg' : I1 167 = w := by rw [← hg]; funext y; exact hf1 _ _ (by omega)
    have hly' : nmR I1 171 (lyW w 64) := fun s h8 => by rw [hf1 _ _ (by omega)]; exact hly s h8
    refine ⟨ni_in (by omega) (by omega), ni_in (by omega) (by omega), ni_in (by omega) (by omega), ni_in (by omega) (by omega), ?_⟩
    refine sr_cause hp hG hs (show d + (k + 1) = 3 by omega) hg' hly' (hT.ofD hfc) hTo hC1 (by omega) ?_
    cases hc : csW w (k + 1) T with
    | none =>
      intro I2 c2 f2
      rw [hc] at eL
      rw [eL] at kk
      refine am_back (v308_101 hp hl1 ?_)
      rw [if_pos rfl, ni_p1]
      refine v308_25 hp ?_
      rw [if_pos rfl]
      refine kk I2 (wrH.cons ?_ ?_ ?_ wrH.nil) c2 (hfc.trans f2.d)
      · rw [f2 _ _ (by omega) (by omega) (by omega) (by omega) (by omega)]; exact hg0
      · rw [f2 _ _ (by omega) (by omega) (by omega) (by omega) (by omega)]; exact hg1
      · rw [f2 _ _ (by omega) (by omega) (by omega) (by omega) (by omega)]; exact hg2
    | some z =>
      obtain ⟨B, q⟩ := z
      intro I2 hB hBo hq c2 f2
      rw [hc] at eL
      rw [eL] at kk
      have ht8 := (hG.qu hq).2.2.1
      refine am_back (v308_101 hp hl1 ?_)
      rw [if_neg (ni_neg1 (by omega)), ni_p1]
      have hg2' : I2 167 = w := by rw [← hg']; funext y; exact f2 _ _ (by omega) (by omega) (by omega) (by omega) (by omega)
      have hly2 : nmR I2 171 (lyW w 64) := fun s h8 => by rw [f2 _ _ (by omega) (by omega) (by omega) (by omega) (by omega)]; exact hly' s h8
      refine rSLV_all hp hG hs k (d + 1) (by omega) _ (D' + 6) I2 B (by omega) hg2' hly2 hB hBo c2 (fun I3 a1 a2 a3 => am_back (v308_115 hp ?_))
      have f3 : rCf d I1 I3 := f2.trans (rCf.ofS a3)
      refine ih (d + 1) (by omega) (wN w (972 + 5 * q + 1)) B I3 _ _ hl1 (by rw [← hg']; funext y; exact f3 _ _ (by omega) (by omega) (by omega) (by omega) (by omega)) (fun s h8 => by rw [f3 _ _ (by omega) (by omega) (by omega) (by omega) (by omega)]; exact hly' s h8) (hB.ofS a3 (Nat.le_refl _)) hBo a2 a1 ht8 (fun I4 b1 b2 b3 => ?_)
      have hc4 : ∀ c, c < 3 * (d + 1) → I4 199 c = I1 199 c := fun c hc => by
        rw [b3 199 c (by omega) (by omega) (by omega) (by omega) (by omega) (by omega), f3 _ _ (by omega) (by omega) (by omega) (by omega) (by omega)]
      rw [show d + ((gtE w (k + 1) T s T.1, s, T.1) :: wrL w k B (wN w (972 + 5 * q + 1))).length = d + 1 + (wrL w k B (wN w (972 + 5 * q + 1))).length by simp only [List.length_cons]; omega] at kk
      refine kk I4 (wrH.cons ?_ ?_ ?_ b1) b2 ((hfc.trans f3.d).trans (b3.lower (by omega)))
      · rw [hc4 _ (by omega)]; exact hg0
      · rw [hc4 _ (by omega)]; exact hg1
      · rw [hc4 _ (by omega)]; exact hg2
theorem sr_wrongq (hp : am_PF Pf) (hG : WG w) (hs : sndW w) {I : am_I} (hQ : rQ I w T) {D : Nat} (hD : 120 ≤ D) {x1 x2 x3 : Int32} (kk : rA P J Pf w T I cd1 (qSn 2 (aWr w T) x1 x2 x3)) : am_mth D 309 [.ref 163, .int x1, .int x2, .int x3] (am_SH, I, J, Pf) P := by
  obtain ⟨D', rfl⟩ : ∃ D', D = D' + 4 := ⟨D - 4, by omega⟩
  have h24 := hQ.2.2.1.2.1
  refine am_mth_of rfl rfl (v309_0 hp ?_)
  by_cases c1 : x1 < 0
  · rw [if_pos c1]
    rw [qSn_f (fun z => inW_lo (by omega) c1 z.1)] at kk
    exact kk
  rw [if_neg c1]
  by_cases c2 : (7 : Int32) < x1
  · rw [if_pos c2]
    rw [qSn_f (fun z => inW_hi (n := 7) (by omega) c2 z.1)] at kk
    exact kk
  rw [if_neg c2]
  by_cases c3 : x2 < 0
  · rw [if_pos c3]
    rw [qSn_f (fun z => inW_lo (by omega) c3 z.2.1)] at kk
    exact kk
  rw [if_neg c3]
  by_cases c4 : x3 < 0
  · rw [if_pos c4]
    rw [qSn_f (fun z => inW_lo (by omega) c4 z.2.2)] at kk
    exact kk
  rw [if_neg c4]
  by_cases c5 : (2 : Int32) < x3
  · rw [if_pos c5]
    rw [qSn_f (fun z => inW_hi (n := 2) (by omega) c5 z.2.2)] at kk
    exact kk
  rw [if_neg c5]
  obtain ⟨s, h1, h7⟩ := inW_of (n := 7) (by omega) c1 c2
  obtain ⟨c, h3, hc2⟩ := inW_of (n := 2) (by omega) c4 c5
  obtain ⟨x, h2, hx2⟩ := inW_of (n := 2147483647) (by omega) c3 (fun z => by
    rw [Int32.lt_iff_toInt_lt, ni_int (by omega)] at z
    have := Int32.toInt_lt x2
    omega)
  subst h1 h2 h3
  rw [qSn_t h7 hx2 hc2 (by omega)] at kk
  refine am_mth_of rfl rfl (v308_0 hp ?_)
  refine sr_knows hp hG hs hQ.z (by omega) (fun I1 a1 a2 a3 => am_back (v308_4 hp ?_))
  have hK := a1.kn a2
  have b0 : I1 163 0 = 0 := by rw [a3 _ _ (by omega) (by omega)]; exact am_u_same
  have hf1 : rQf I I1 := fun o k e1 e2 e3 e4 => by rw [a3 o k (by omega) (by omega), am_u_nq (by omega)]
  have hh := hK.2.2.2.h h24 (show s < 8 by omega) (Nat.le_refl _)
  have ix := ixD (show 0 ≤ 3 by omega) (show s < 8 by omega) (show T.1 < 25 by omega)
  rw [show ((25 : Int32) * 0).toNatClampNeg = 25 * 0 from by decide, hK.2.1.1, show ((((((0 : Int32) * 8) + ni s) * 625) + ((0 : Int32) * 25)) + ni T.1) = ni (5000 * 0 + 625 * s + T.1) from ix.1, ix.2.2, hh.1]
  refine ⟨by decide, ix.2.1, ?_⟩
  by_cases c0 : 0 < HHx w 3 T s 0 T.1
  · rw [if_neg (fun z => absurd ((lle 0 (by omega) (by omega)).mp z) (by omega))]
    refine am_back (v309_50 hp ?_)
    have hkk := kk I1 a1 hf1 b0
    unfold aWr at hkk
    rw [if_pos c0] at hkk
    rw [show (0 : Int32) = ni 0 from rfl, if_pos ((ni_le (by omega) (by omega)).mpr (Nat.zero_le _))]
    exact hkk
  · rw [if_pos ((lle 0 (by omega) (by omega)).mpr (by omega)), show (0 : Int32) = ni 0 from rfl]
    have hlen := wrL_len (w := w) 3 T s
    refine sr_laysw hp hG hs (by omega) 3 0 rfl s T I1 _ _ rfl a1.1 a1.2.1 hK.2.1 a1.2.2.2.1 a1.2.2.2.2.1 hK.2.2.2 (by omega) (fun I2 d1 d2 d3 => am_back (v309_50 hp ?_))
    rw [Nat.zero_add]
    have hQ2 : rQ I2 w T := a1.aft hG d2 d3
    have hkk := kk I2 hQ2 (hf1.trans (fun o k e1 e2 e3 e4 => d3 o k (by omega) (by omega) (by omega) (by omega) (by omega) (by omega))) (by rw [d3 _ _ (by omega) (by omega) (by omega) (by omega) (by omega) (by omega)]; exact b0)
    unfold aWr at hkk
    rw [if_neg c0] at hkk
    cases hz : (wrL w 3 T s)[x]? with
    | none =>
      rw [hz] at hkk
      have : (wrL w 3 T s).length ≤ x := List.getElem?_eq_none_iff.mp hz
      rw [if_pos ((ni_le (by omega) (by omega)).mpr this)]
      exact hkk
    | some z =>
      rw [hz] at hkk
      have hx4 : x < (wrL w 3 T s).length := (List.getElem?_eq_some_iff.mp hz).1
      rw [if_neg (fun z => absurd ((ni_le (by omega) (by omega)).mp z) (by omega)), show (3 : Int32) = ni 3 from rfl, ni_mul, ni_add, ni_nat (show 3 * x + c < 2147483648 by omega), d1.at hz (by omega)]
      exact ⟨ni_in (by omega) (by omega), hkk⟩
end WRR
