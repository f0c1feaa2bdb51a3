/-! The reference's words, names -/
def mWord (b : Nat → Int32) (n a : Nat) : (Nat × Nat) ⊕ (List Int32 × Nat × Nat) :=
  rb (mTake b n 39 a) (fun q => if (wdL b n (n - q) q).2.2 = true ∧ (wdL b n (n - q) q).2.1 < n ∧ (wdL b n (n - q) q).1 ≠ [] then .inr ((wdL b n (n - q) q).1, q - 1, (wdL b n (n - q) q).2.1) else .inl (1, (wdL b n (n - q) q).2.1))
/-- a word has been read -/
def rWD (I I' : am_I) (b : Nat → Int32) (n : Nat) (z : List Int32 × Nat × Nat) : Prop := RM I' b n (z.2.2 + 1) ∧ I' 163 5 = -1 ∧ I' 163 14 = ni z.1.length ∧ I' 163 15 = ni z.2.1 ∧ I' 163 16 = ni z.2.2 ∧ (∀ i, i < z.1.length → I' 168 i = z.1.getD i 0) ∧ z.1.length ≤ 600 ∧ z.1 ≠ [] ∧ z.2.2 < n ∧ (∀ o k, o ≠ 168 → ¬ (o = 163 ∧ (k = 4 ∨ k = 14 ∨ k = 15 ∨ k = 16)) → I' o k = I o k)
section RR3
variable {d : Nat} {P : am_O → Prop} {J : am_J} {Pf : am_R} {n : Nat} {b : Nat → Int32}
theorem rr_wd (hp : am_PF Pf) : ∀ (f : Nat) (I : am_I) (a : Nat) (pre : List Int32), n - a ≤ f → RM I b n a → I 163 5 = -1 → I 163 14 = ni pre.length → pre.length < a → (∀ i, i < pre.length → I 168 i = pre.getD i 0) →
    ((wdL b n f a).2.2 = true → (wdL b n f a).2.1 < n → ∀ I', RM I' b n (wdL b n f a).2.1 → I' 163 5 = -1 → I' 163 14 = ni (pre ++ (wdL b n f a).1).length → (∀ i, i < (pre ++ (wdL b n f a).1).length → I' 168 i = (pre ++ (wdL b n f a).1).getD i 0) → (pre ++ (wdL b n f a).1).length ≤ 600 → (∀ o k, o ≠ 168 → ¬ (o = 163 ∧ (k = 4 ∨ k = 14)) → I' o k = I o k) → am_go none (d + 3) 213 (64, [some (.ref 163)], [], (am_SH, I', J, Pf), 0, 0) P) →
    (((wdL b n f a).2.2 = false ∨ n ≤ (wdL b n f a).2.1) → ∀ I', rFF I I' 1 (wdL b n f a).2.1 → (wdL b n f a).2.1 ≤ 600 → am_go none (d + 3) 213 (64, [some (.ref 163)], [], (am_SH, I', J, Pf), 0, 0) P) →
    am_go none (d + 3) 213 (21, [some (.ref 163)], [], (am_SH, I, J, Pf), 0, 0) P := by
  -- a fault ends it
  have fl : ∀ (I I1 : am_I) (m pl : Nat) (x : Int32), rFr I I1 → m < 600 → (∀ I', rFF I I' 1 pl → am_go none (d + 3) 213 (64, [some (.ref 163)], [], (am_SH, I', J, Pf), 0, 0) P) → rFF I I1 1 pl → pl ≤ 600 → am_go none (d + 3) 213 (50, [some (.ref 163)], [.int x, .int (ni m), .ref 168], (am_SH, I1, J, Pf), 0, 0) P := by
    intro I I1 m pl x hf hm kk hF hpl
    refine v213_50 hp ⟨ni_in (by omega) (by omega), ?_⟩
    refine v213_21 hp ?_
    have hF2 : rFF I (am_u (am_u I1 168 (ni m).toNatClampNeg x) 163 14 (I1 163 14 + 1)) 1 pl := hF.then ((rNF.rfl'.u (by simp [rSc]) (by omega)).u (by simp [rSc]) (by omega))
    rw [if_neg (hF2.bad (by omega))]
    exact kk _ hF2
  intro f
  have atend : ∀ (I : am_I) (a : Nat) (pre : List Int32), n ≤ a → RM I b n a → I 163 5 = -1 → I 163 14 = ni pre.length → pre.length < a → (∀ I', rFF I I' 1 a → a ≤ 600 → am_go none (d + 3) 213 (64, [some (.ref 163)], [], (am_SH, I', J, Pf), 0, 0) P) → am_go none (d + 3) 213 (21, [some (.ref 163)], [], (am_SH, I, J, Pf), 0, 0) P := by
    intro I a pre hn h h5 h14 hpa kk
    have hR := h
    obtain ⟨h1, h2, h3, h4, h6⟩ := h
    refine v213_21 hp ?_
    rw [if_pos h5, h2, h3, if_pos ((ni_le (by omega) (by omega)).mpr (by omega)), h14]
    have ev : hv b n a = -1 := if_neg (by omega)
    have e1 : sgA b n a = a := if_neg (by rw [ev]; decide)
    have e2 : sgOk b n 1 a = false := by
      unfold sgOk
      rw [if_neg (by rw [ev]; decide), ev]
      rfl
    refine sr_sign hp (Or.inr rfl) hR h5 (fun z => absurd (e2.symm.trans z) (by decide)) (fun _ I' hF hpl => am_back ?_)
    rw [e1] at hF hpl
    exact fl I I' _ a _ hF.2.2 (by omega) (fun I' hF => kk I' hF hpl) hF hpl
  induction f with
  | zero =>
    intro I a pre hf h h5 h14 hpa hrow k1 k2
    exact atend I a pre (by omega) h h5 h14 hpa (fun I' hF hpl => k2 (Or.inr (by show n ≤ a; omega)) I' hF hpl)
  | succ f ih =>
    intro I a pre hf h h5 h14 hpa hrow k1 k2
    by_cases hn : n ≤ a
    · have e : wdL b n (f + 1) a = ([], a, true) := if_neg (by omega)
      rw [e] at k2
      exact atend I a pre hn h h5 h14 hpa (fun I' hF hpl => k2 (Or.inr (by show n ≤ a; omega)) I' hF hpl)
    · have hR := h
      obtain ⟨h1, h2, h3, h4, h6⟩ := h
      refine v213_21 hp ?_
      rw [if_pos h5, h2, h3, if_neg (fun z => absurd ((ni_le (by omega) (by omega)).mp z) (by omega)), h1, ni_nat (by omega)]
      refine ⟨ni_in (by omega) (by omega), ?_⟩
      by_cases c : b a = 39
      · have e : wdL b n (f + 1) a = ([], a, true) := if_neg (fun z => z.2 c)
        rw [e] at k1
        rw [if_pos c]
        dsimp only at k1
        rw [List.append_nil] at k1
        exact k1 rfl (by omega) I hR h5 h14 hrow (by omega) (fun _ _ _ _ => rfl)
      · rw [if_neg c, h14]
        refine sr_sign hp (Or.inr rfl) hR h5 (fun hs hR2 => am_back ?_) (fun hs I' hF hpl => am_back ?_)
        · have e : wdL b n (f + 1) a = (hv b n (sgA b n a) :: (wdL b n f (sgA b n a + 1)).1, (wdL b n f (sgA b n a + 1)).2) := (if_pos ⟨by omega, c⟩).trans (if_pos hs)
          rw [e] at k1 k2
          have hA := sgA_le (b := b) h4
          refine v213_50 hp ⟨ni_in (by omega) (by omega), ?_⟩
          rw [ni_nat (by omega)]
          have e14 : am_u I 163 4 (ni (sgA b n a + 1)) 163 14 + 1 = ni (pre ++ [hv b n (sgA b n a)]).length := by
            rw [am_u_nq (by omega), h14, ni_1, ni_add]
            simp
          rw [e14]
          have hRn : RM (am_u (am_u (am_u I 163 4 (ni (sgA b n a + 1))) 168 pre.length (hv b n (sgA b n a))) 163 14 (ni (pre ++ [hv b n (sgA b n a)]).length)) b n (sgA b n a + 1) := by
            obtain ⟨g1, g2, g3, g4, g5⟩ := hR2
            refine ⟨?_, ?_, ?_, g4, g5⟩
            · rw [am_u_o (by omega), am_u_o (by omega)]; exact g1
            · rw [am_u_nq (by omega), am_u_nq (by omega)]; exact g2
            · rw [am_u_nq (by omega), am_u_nq (by omega)]; exact g3
          refine ih _ (sgA b n a + 1) (pre ++ [hv b n (sgA b n a)]) (by omega) hRn ?_ am_u_same (by simp; omega) ?_ ?_ ?_
          · rw [am_u_nq (by omega), am_u_nq (by omega), am_u_nq (by omega)]; exact h5
          · intro i hi
            rw [am_u_o (by omega)]
            simp only [List.length_append, List.length_singleton] at hi
            by_cases hi2 : i = pre.length
            · subst hi2
              rw [am_u_same]
              simp [List.getD_eq_getElem?_getD]
            · rw [am_u_nq (by omega), am_u_o (by omega), hrow i (by omega)]
              simp only [List.getD_eq_getElem?_getD]
              rw [List.getElem?_append_left (by omega)]
          · intro g1 g2 I' g3 g4 g5 g6 g7 g8
            rw [List.append_assoc] at g5 g6 g7
            refine k1 g1 g2 I' g3 g4 g5 g6 g7 (fun o k e1 e2 => ?_)
            rw [g8 o k e1 e2, am_u_nq (by omega), am_u_nq (by omega), am_u_nq (by omega)]
          · intro g1 I' hF hpl
            refine k2 g1 I' (rFF.after ?_ hF) hpl
            exact ((rFr.rfl'.u (by simp [rSc])).u (by simp [rSc])).u (by simp [rSc])
        · have e : wdL b n (f + 1) a = ([], sgA b n a, false) := (if_pos ⟨by omega, c⟩).trans (if_neg (by rw [hs]; decide))
          rw [e] at k2
          have hA := sgA_le (b := b) h4
          exact fl I I' _ _ _ hF.2.2 (by omega) (fun I' hF => k2 (Or.inl rfl) I' hF hpl) hF hpl
variable {I : am_I} {a : Nat}
theorem sr_word (hp : am_PF Pf) (h : RM I b n a) (h5 : I 163 5 = -1)
    (kk : rm2 (mWord b n a) (fun z => ∀ I', rWD I I' b n z → P (.inl none, (am_SH, I', J, Pf), 0, 0)) (fun kd pl => ∀ I', rFF I I' kd pl → pl ≤ 600 → P (.inl none, (am_SH, I', J, Pf), 0, 0))) :
    am_mth (d + 4) 213 [.ref 163] (am_SH, I, J, Pf) P := by
  refine am_mth_of rfl rfl (v213_0 hp (sr_need (d := d) hp (by decide) h h5 ?_))
  unfold mWord at kk
  have fin : ∀ (I1 : am_I) (kd pl : Nat), rFF I I1 kd pl → pl ≤ 600 → (∀ I', rFF I I' kd pl → pl ≤ 600 → P (.inl none, (am_SH, I', J, Pf), 0, 0)) → am_go none (d + 3) 213 (64, [some (.ref 163)], [], (am_SH, I1, J, Pf), 0, 0) P := by
    intro I1 kd pl hF hpl kk
    refine v213_64 hp ?_
    rw [if_neg (hF.bad (by omega))]
    refine v213_95 hp ?_
    have hF2 : rFF I (am_u I1 163 16 (I1 163 4)) kd pl := hF.then (rNF.rfl'.u (by simp [rSc]) (by omega))
    rw [if_neg (hF2.bad (by omega))]
    exact kk _ hF2 hpl
  cases hm : mTake b n 39 a with
  | inl e =>
    rw [hm] at kk
    intro I' hF hpl
    refine am_back (v213_6 hp (v213_21 hp ?_))
    have hF2 : rFF I (am_u (am_u I' 163 15 (I' 163 4 - 1)) 163 14 0) e.1 e.2 := hF.then ((rNF.rfl'.u (by simp [rSc]) (by omega)).u (by simp [rSc]) (by omega))
    rw [if_neg (hF2.bad (by omega))]
    exact fin _ _ _ hF2 hpl kk
  | inr q =>
    rw [hm] at kk
    intro hR
    have hq1 : 1 ≤ q := by
      unfold mTake at hm
      split at hm
      · cases hm; omega
      · cases hm
    refine am_back (v213_6 hp ?_)
    rw [am_u_same, show ni q - 1 = ni (q - 1) from ni_sub (b := 1) hq1]
    have hR2 : RM (am_u (am_u (am_u I 163 4 (ni q)) 163 15 (ni (q - 1))) 163 14 0) b n q := by
      obtain ⟨g1, g2, g3, g4, g5⟩ := hR
      refine ⟨?_, ?_, ?_, g4, g5⟩
      · rw [am_u_o (by omega), am_u_o (by omega)]; exact g1
      · rw [am_u_nq (by omega), am_u_nq (by omega)]; exact g2
      · rw [am_u_nq (by omega), am_u_nq (by omega)]; exact g3
    have hle := wdL_le (b := b) (n - q) q hR.2.2.2.1
    refine rr_wd hp (n - q) _ q [] (by omega) hR2 ?_ am_u_same (by simp; omega) (fun i hi => absurd hi (by simp)) ?_ ?_
    · rw [am_u_nq (by omega), am_u_nq (by omega), am_u_nq (by omega)]; exact h5
    · intro g1 g2 I' g3 g4 g5 g6 g7 g8
      simp only [List.nil_append] at g5 g6 g7
      dsimp only [rb] at kk
      refine v213_64 hp ?_
      rw [if_pos g4, g5]
      have g9 := g3
      obtain ⟨m1, m2, m3, m4, m5⟩ := g3
      by_cases c : (wdL b n (n - q) q).1 = []
      · rw [if_neg (fun z => z.2.2 c)] at kk
        rw [c, if_pos (show ni ([] : List Int32).length = 0 from rfl), m3]
        refine v213_95 hp ?_
        have hF : rFF I (am_u (am_u (am_u I' 163 16 (ni (wdL b n (n - q) q).2.1)) 163 5 (ni (wdL b n (n - q) q).2.1)) 163 6 1) 1 (wdL b n (n - q) q).2.1 := by
          refine rFF.mark (rFr.u ?_ (by simp [rSc]))
          intro o k e
          rw [g8 o k (fun z => e (by subst z; simp [rSc])) (fun z => e (by obtain ⟨rfl, rfl | rfl⟩ := z <;> simp [rSc]))]
          have e9 : ¬ (o = 163 ∧ (k = 4 ∨ k = 14 ∨ k = 15)) := fun z => e (by obtain ⟨rfl, rfl | rfl | rfl⟩ := z <;> simp [rSc])
          rw [am_u_nq (by omega), am_u_nq (by omega), am_u_nq (by omega)]
        rw [if_neg (hF.bad (by omega))]
        exact kk _ hF (by omega)
      · rw [if_pos ⟨g1, g2, c⟩] at kk
        have c9 : ¬ (ni (wdL b n (n - q) q).1.length = 0) := by
          rw [ni_0, ni_inj (by omega) (by omega)]
          exact fun z => c (List.length_eq_zero_iff.mp z)
        rw [if_neg c9, m3]
        refine v213_95 hp ?_
        rw [if_pos (u_5 (by omega) g4), am_u_nq (by omega), m3, ni_1, ni_add]
        refine kk _ ⟨⟨?_, ?_, am_u_same, Nat.succ_le_of_lt g2, m5⟩, ?_, ?_, ?_, ?_, ?_, g7, c, g2, ?_⟩
        · rw [am_u_o (by omega), am_u_o (by omega)]; exact m1
        · rw [am_u_nq (by omega), am_u_nq (by omega)]; exact m2
        · rw [am_u_nq (by omega), am_u_nq (by omega)]; exact g4
        · rw [am_u_nq (by omega), am_u_nq (by omega)]; exact g5
        · rw [am_u_nq (by omega), am_u_nq (by omega), g8 163 15 (by omega) (by omega), am_u_nq (by omega), am_u_same]
        · rw [am_u_nq (by omega), am_u_same]
        · intro i hi
          rw [am_u_o (by omega), am_u_o (by omega)]
          exact g6 i hi
        · intro o k e1 e2
          rw [am_u_nq (by omega), am_u_nq (by omega), g8 o k e1 (by omega), am_u_nq (by omega), am_u_nq (by omega), am_u_nq (by omega)]
    · intro g1 I' hF hpl
      dsimp only [rb] at kk
      rw [if_neg (by
        rintro ⟨z1, z2, -⟩
        rcases g1 with g1 | g1
        · rw [z1] at g1; cases g1
        · omega)] at kk
      refine fin _ _ _ (rFF.after ?_ hF) hpl kk
      exact ((rFr.rfl'.u (by simp [rSc])).u (by simp [rSc])).u (by simp [rSc])
theorem sr_word_nf (hp : am_PF Pf) (h5 : ¬ I 163 5 = -1) (kk : ∀ I', rNF I I' → P (.inl none, (am_SH, I', J, Pf), 0, 0)) : am_mth (d + 4) 213 [.ref 163] (am_SH, I, J, Pf) P := by
  refine am_mth_of rfl rfl (v213_0 hp (sr_need_nf (d := d) hp h5 (am_back (v213_6 hp (v213_21 hp ?_)))))
  have hF : rNF I (am_u (am_u I 163 15 (I 163 4 - 1)) 163 14 0) := (rNF.rfl'.u (by simp [rSc]) (by omega)).u (by simp [rSc]) (by omega)
  rw [if_neg (hF.bad h5)]
  refine v213_64 hp ?_
  rw [if_neg (hF.bad h5)]
  refine v213_95 hp ?_
  have hF2 := hF.u (o := 163) (k := 16) (v := am_u (am_u I 163 15 (I 163 4 - 1)) 163 14 0 163 4) (by simp [rSc]) (by omega)
  rw [if_neg (hF2.bad h5)]
  exact kk _ hF2
/-- a word of eight signs at most -/
def mShort (b : Nat → Int32) (n a : Nat) : (Nat × Nat) ⊕ (List Int32 × Nat × Nat) := rb (mWord b n a) (fun z => if z.1.length ≤ 8 then .inr z else .inl (2, z.2.2))
theorem rWD.fr {I I' : am_I} {z : List Int32 × Nat × Nat} (h : rWD I I' b n z) : rFr I I' := fun o k e => h.2.2.2.2.2.2.2.2.2 o k (fun z => e (by subst z; simp [rSc])) (fun z => e (by obtain ⟨rfl, rfl | rfl | rfl | rfl⟩ := z <;> simp [rSc]))
theorem sr_short (hp : am_PF Pf) (h : RM I b n a) (h5 : I 163 5 = -1)
    (kk : rm2 (mShort b n a) (fun z => ∀ I', rWD I I' b n z → z.1.length ≤ 8 → P (.inl none, (am_SH, I', J, Pf), 0, 0)) (fun kd pl => ∀ I', rFF I I' kd pl → pl ≤ 600 → P (.inl none, (am_SH, I', J, Pf), 0, 0))) :
    am_mth (d + 5) 214 [.ref 163] (am_SH, I, J, Pf) P := by
  refine am_mth_of rfl rfl (v214_0 hp (sr_word (d := d) hp h h5 ?_))
  unfold mShort at kk
  cases hm : mWord b n a with
  | inl e =>
    rw [hm] at kk
    intro I' hF hpl
    refine am_back (v214_4 hp ?_)
    rw [if_neg (hF.bad (by omega))]
    exact kk I' hF hpl
  | inr z =>
    rw [hm] at kk
    intro I' hW
    have hW' := hW
    obtain ⟨g1, g2, g3, g4, g5, g6, g7, g8, g9, g10⟩ := hW
    refine am_back (v214_4 hp ?_)
    rw [if_pos g2, g3]
    dsimp only [rb] at kk
    by_cases c : z.1.length ≤ 8
    · rw [if_pos c] at kk
      rw [if_pos ((lle 8 (by omega) (by omega)).mpr c)]
      exact kk I' hW' c
    · rw [if_neg c] at kk
      rw [if_neg (fun y => c ((lle 8 (by omega) (by omega)).mp y)), g5]
      have hn := g1.2.2.2.2
      exact kk _ (rFF.mark hW'.fr) (by omega)
theorem sr_short_nf (hp : am_PF Pf) (h5 : ¬ I 163 5 = -1) (kk : ∀ I', rNF I I' → P (.inl none, (am_SH, I', J, Pf), 0, 0)) : am_mth (d + 5) 214 [.ref 163] (am_SH, I, J, Pf) P := by
  refine am_mth_of rfl rfl (v214_0 hp (sr_word_nf (d := d) hp h5 (fun I' hN => am_back (v214_4 hp ?_))))
  rw [if_neg (hN.bad h5)]
  exact kk I' hN
end RR3
