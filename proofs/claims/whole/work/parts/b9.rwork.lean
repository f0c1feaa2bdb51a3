/-! WORK: the reference reads a step -/
section RWK
variable {b : Nat → Int32} {n : Nat} {J : am_J} {Pf : am_R}
theorem stp_eq {a : Nat} (ha : a ≤ n) : stpI (wv b (rsk b n a) (mNE b n a)) = if stN b (rsk b n a) (mNE b n a) = 0 then -1 else ni (stN b (rsk b n a) (mNE b n a) - 1) := by
  have hL : ∀ i, i < mNE b n a - rsk b n a → isLt (b (rsk b n a + i)) = true := fun i hi => ltF_all _ _ i hi
  have w17 := wv_eq (x := 17) (by omega) (by omega) hL
  have w18 := wv_eq (x := 18) (by omega) (by omega) hL
  have w19 := wv_eq (x := 19) (by omega) (by omega) hL
  have w20 := wv_eq (x := 20) (by omega) (by omega) hL
  rw [show 17 - 2 = 15 from rfl] at w17
  rw [show 18 - 2 = 16 from rfl] at w18
  rw [show 19 - 2 = 17 from rfl] at w19
  rw [show 20 - 2 = 18 from rfl] at w20
  unfold stpI stN
  by_cases c1 : nmB b (rsk b n a) (mNE b n a) (am_sb 15) = true
  · rw [if_pos (w17.mpr c1), if_pos c1]; rfl
  rw [if_neg (fun z => c1 (w17.mp z)), if_neg c1]
  by_cases c2 : nmB b (rsk b n a) (mNE b n a) (am_sb 16) = true
  · rw [if_pos (w18.mpr c2), if_pos c2]; rfl
  rw [if_neg (fun z => c2 (w18.mp z)), if_neg c2]
  by_cases c3 : nmB b (rsk b n a) (mNE b n a) (am_sb 17) = true
  · rw [if_pos (w19.mpr c3), if_pos c3]; rfl
  rw [if_neg (fun z => c3 (w19.mp z)), if_neg c3]
  by_cases c4 : nmB b (rsk b n a) (mNE b n a) (am_sb 18) = true
  · rw [if_pos (w20.mpr c4), if_pos c4]; rfl
  rw [if_neg (fun z => c4 (w20.mp z)), if_neg c4, if_pos rfl]
/-- a step is laid down -/
theorem sr_tells (hp : am_PF Pf) {P : am_O → Prop} {I : am_I} {u k m d : Nat} {x2 x3 : Int32} (h5 : I 163 5 = -1) (h33 : I 163 33 = ni (12 * u)) (hu : u + 1 ≤ 50) (hk : k ≤ 3) (hm : k = 0 → I 163 14 = ni m ∧ m ≤ 8)
    (kk : ∀ I', I' 178 (12 * u) = ni k → I' 178 (12 * u + 1) = x2 → I' 178 (12 * u + 2) = x3 → (k = 0 → I' 178 (12 * u + 3) = ni m ∧ ∀ i, i < m → I' 178 (12 * u + 4 + i) = I 168 i) → I' 163 33 = ni (12 * (u + 1)) → (∀ o k, ¬ (o = 163 ∧ k = 33) → ¬ (o = 178 ∧ 12 * u ≤ k) → I' o k = I o k) → P (.inl none, (am_SH, I', J, Pf), 0, 0)) : am_mth (d + 2) 243 [.ref 163, .int (ni k), .int x2, .int x3] (am_SH, I, J, Pf) P := by
  -- the loop over the signs
  have LP : ∀ (y j : Nat) (I1 : am_I) (l3 : Option Value), am_k1 l3 = true → 8 - j = y → j ≤ 8 → I1 163 33 = ni (12 * u) → (k = 0 → I1 163 14 = ni m) → I1 178 (12 * u) = ni k → I1 178 (12 * u + 1) = x2 → I1 178 (12 * u + 2) = x3 → (k = 0 → I1 178 (12 * u + 3) = ni m ∧ ∀ i, i < m → i < j → I1 178 (12 * u + 4 + i) = I 168 i) → (∀ o k, ¬ (o = 178 ∧ 12 * u ≤ k) → I1 o k = I o k) → am_go none (d + 1) 243 (68, [some (.ref 163), some (.int (ni k)), some (.int x2), l3, some (.int (ni j))], [], (am_SH, I1, J, Pf), 0, 0) P := by
    intro y
    induction y with
    | zero =>
      intro j I1 l3 hl3 hy hj a1 a2 a3 a4 a5 a6 a7
      obtain rfl : j = 8 := by omega
      refine v243_68 hp hl3 ?_
      rw [if_pos (by decide), a1, show ni (12 * u) + 12 = ni (12 * (u + 1)) from ni_add (12 * u) 12]
      refine kk _ ?_ ?_ ?_ (fun c => ⟨?_, fun i hi => ?_⟩) am_u_same (fun o k e1 e2 => ?_)
      · rw [am_u_nq (by omega)]; exact a3
      · rw [am_u_nq (by omega)]; exact a4
      · rw [am_u_nq (by omega)]; exact a5
      · rw [am_u_nq (by omega)]; exact (a6 c).1
      · rw [am_u_nq (by omega)]
        have := (hm c).2
        exact (a6 c).2 i hi (by omega)
      · rw [am_u_nq e1]; exact a7 o k e2
    | succ y ih =>
      intro j I1 l3 hl3 hy hj a1 a2 a3 a4 a5 a6 a7
      refine v243_68 hp hl3 ?_
      rw [if_neg (fun z => absurd ((gle 8 (by omega) (by omega)).mp z) (by omega)), a1, show ni (12 * u) + 4 = ni (12 * u + 4) from ni_add (12 * u) 4, ni_add, show (ni (12 * u + 4 + j)).toNatClampNeg = 12 * u + 4 + j from ni_nat (by omega), show (ni j).toNatClampNeg = j from ni_nat (by omega), ni_p1]
      have nx : ∀ v : Int32, (k = 0 → j < m → v = I 168 j) → am_go none (d + 1) 243 (68, [some (.ref 163), some (.int (ni k)), some (.int x2), l3, some (.int (ni (j + 1)))], [], (am_SH, am_u I1 178 (12 * u + 4 + j) v, J, Pf), 0, 0) P := by
        intro v hv
        refine ih (j + 1) _ _ hl3 (by omega) (by omega) (by rw [am_u_nq (by omega)]; exact a1) (fun c => by rw [am_u_nq (by omega)]; exact a2 c) (by rw [am_u_nq (by omega)]; exact a3) (by rw [am_u_nq (by omega)]; exact a4) (by rw [am_u_nq (by omega)]; exact a5) (fun c => ⟨by rw [am_u_nq (by omega)]; exact (a6 c).1, fun i hi hij => ?_⟩) (fun o k e => by rw [am_u_nq (by omega)]; exact a7 o k e)
        by_cases e : i = j
        · subst e
          rw [am_u_same]
          exact hv c hi
        · rw [am_u_nq (by omega)]
          exact (a6 c).2 i hi (by omega)
      by_cases c : k = 0
      · rw [if_pos ((leq 0 (by omega) (by omega)).mpr c), a2 c]
        have m8 := (hm c).2
        by_cases cm : m ≤ j
        · rw [if_pos ((ni_le (by omega) (by omega)).mpr cm)]
          exact ⟨ni_in (by omega) (by omega), nx 0 (fun _ z => absurd z (by omega))⟩
        · rw [if_neg (fun z => cm ((ni_le (by omega) (by omega)).mp z))]
          exact ⟨ni_in (by omega) (by omega), ni_in (by omega) (by omega), nx _ (fun _ _ => a7 _ _ (by omega))⟩
      · rw [if_neg (fun z => c ((leq 0 (by omega) (by omega)).mp z))]
        exact ⟨ni_in (by omega) (by omega), nx 0 (fun z => absurd z c)⟩
  refine am_mth_of rfl rfl (v243_0 hp ?_)
  rw [if_pos h5, h33, ni_p1, ni_p2, show ni (12 * u) + 3 = ni (12 * u + 3) from ni_add (12 * u) 3, ni_nat (show 12 * u < 2147483648 by omega), ni_nat (show 12 * u + 1 < 2147483648 by omega), ni_nat (show 12 * u + 2 < 2147483648 by omega), ni_nat (show 12 * u + 3 < 2147483648 by omega)]
  refine ⟨ni_in (by omega) (by omega), ni_in (by omega) (by omega), ni_in (by omega) (by omega), ?_⟩
  have IN : ∀ v : Int32, (k = 0 → v = ni m) → am_go none (d + 1) 243 (68, [some (.ref 163), some (.int (ni k)), some (.int x2), some (.int x3), some (.int 0)], [], (am_SH, am_u (am_u (am_u (am_u I 178 (12 * u) (ni k)) 178 (12 * u + 1) x2) 178 (12 * u + 2) x3) 178 (12 * u + 3) v, J, Pf), 0, 0) P := by
    intro v hv
    refine LP 8 0 _ _ rfl rfl (Nat.zero_le _) (by rw [am_u_nq (by omega), am_u_nq (by omega), am_u_nq (by omega), am_u_nq (by omega)]; exact h33) (fun c => by rw [am_u_nq (by omega), am_u_nq (by omega), am_u_nq (by omega), am_u_nq (by omega)]; exact (hm c).1) ?_ ?_ ?_ (fun c => ⟨?_, fun i _ hi => absurd hi (by omega)⟩) (fun o k e => by rw [am_u_nq (by omega), am_u_nq (by omega), am_u_nq (by omega), am_u_nq (by omega)])
    · rw [am_u_nq (by omega), am_u_nq (by omega), am_u_nq (by omega)]; exact am_u_same
    · rw [am_u_nq (by omega), am_u_nq (by omega)]; exact am_u_same
    · rw [am_u_nq (by omega)]; exact am_u_same
    · rw [am_u_same]; exact hv c
  by_cases c : k = 0
  · rw [if_pos ((leq 0 (by omega) (by omega)).mpr c), (hm c).1]
    exact ⟨ni_in (by omega) (by omega), IN _ (fun _ => rfl)⟩
  · rw [if_neg (fun z => c ((leq 0 (by omega) (by omega)).mp z))]
    exact ⟨ni_in (by omega) (by omega), IN _ (fun z => absurd z c)⟩
theorem sr_tells_nf (hp : am_PF Pf) {P : am_O → Prop} {I : am_I} {d : Nat} {x1 x2 x3 : Int32} (h5 : ¬ I 163 5 = -1) (kk : P (.inl none, (am_SH, I, J, Pf), 0, 0)) : am_mth (d + 2) 243 [.ref 163, .int x1, .int x2, .int x3] (am_SH, I, J, Pf) P := by
  refine am_mth_of rfl rfl (v243_0 hp ?_)
  rw [if_neg h5]
  exact kk
/-- what reading steps changes -/
def rSs (u : Nat) (I I' : am_I) : Prop := ∀ o k, ¬ (o = 163 ∧ (k = 4 ∨ k = 14 ∨ k = 15 ∨ k = 16 ∨ k = 33)) → o ≠ 168 → ¬ (o = 178 ∧ 12 * u ≤ k) → I' o k = I o k
theorem rSs.rfl' {u : Nat} {I : am_I} : rSs u I I := fun _ _ _ _ _ => rfl
theorem rSs.trans {u : Nat} {I I' I'' : am_I} (h : rSs u I I') (g : rSs u I' I'') : rSs u I I'' := fun o k e1 e2 e3 => (g o k e1 e2 e3).trans (h o k e1 e2 e3)
theorem rSs.up {u v : Nat} {I I' : am_I} (h : rSs v I I') (hp : u ≤ v) : rSs u I I' := fun o k e1 e2 e3 => h o k e1 e2 (by omega)
theorem rSs.fr {u : Nat} {I I' : am_I} (h : rSs u I I') : rFr I I' := fun o k e => h o k (fun z => e (by unfold rSc; omega)) (fun z => e (by unfold rSc; omega)) (fun z => e (by unfold rSc; omega))
theorem rSs.at {u : Nat} {I : am_I} {v : Int32} : rSs u I (am_u I 163 4 v) := fun o k e1 e2 e3 => am_u_nq (by omega)
/-- a step and the sign behind it -/
def mSt9 (b : Nat → Int32) (n d a : Nat) : (Nat × Nat) ⊕ (ST d × Nat) := rb (mSt b n d a) (fun z => rb (mTake b n 59 z.2) (fun e => .inr (z.1, e)))
def rSTQ (Pf : am_R) (b : Nat → Int32) (n d : Nat) : Prop := ∀ (D : Nat) (P : am_O → Prop) (I : am_I) (J : am_J) (a u : Nat), 20 + 3 * d ≤ D → RM I b n a → I 163 5 = -1 → I 163 7 = ni (6 - d) → I 163 33 = ni (12 * u) → 3 * u ≤ a →
  rm2 (mSt9 b n d a) (fun z => ∀ I', RM I' b n z.2 → rSs u I I' → I' 163 33 = ni (12 * (u + rsz d z.1)) → rLa (I' 178) d u z.1 → P (.inl none, (am_SH, I', J, Pf), 0, 0)) (fun kd pl => ∀ I', rFF I I' kd pl → pl ≤ 600 → P (.inl none, (am_SH, I', J, Pf), 0, 0)) →
  am_mth D 246 [.ref 163] (am_SH, I, J, Pf) P
def rAGQ (Pf : am_R) (b : Nat → Int32) (n d : Nat) : Prop := ∀ (D : Nat) (P : am_O → Prop) (I : am_I) (J : am_J) (a u : Nat), 19 + 3 * d ≤ D → RM I b n (rsk b n a) → a ≤ n → I 163 5 = -1 → I 163 7 = ni (6 - d) → I 163 33 = ni (12 * u) → 3 * u ≤ a → stN b (rsk b n a) (mNE b n a) = 4 →
  rm2 (mSt b n d a) (fun z => ∀ I', RM I' b n z.2 → I' 163 5 = -1 → rSs u I I' → I' 163 33 = ni (12 * (u + rsz d z.1)) → rLa (I' 178) d u z.1 → P (.inl none, (am_SH, I', J, Pf), 0, 0)) (fun kd pl => ∀ I', rFF I I' kd pl → pl ≤ 600 → P (.inl none, (am_SH, I', J, Pf), 0, 0)) →
  am_mth D 245 [.ref 163] (am_SH, I, J, Pf) P
theorem rLa_fr {R R' : Nat → Int32} : ∀ (d : Nat) (s : ST d) (u : Nat), stOK d s → (∀ k, 12 * u ≤ k → k < 12 * (u + rsz d s) → R' k = R k) → rLa R d u s → rLa R' d u s := by
  have key : ∀ (d : Nat) (e : SE) (u : Nat), seOK e → (∀ k, 12 * u ≤ k → k < 12 * (u + 1) → R' k = R k) → rLa R d u (sI d e) → rLa R' d u (sI d e) := by
    intro d e u he h1 h
    obtain ⟨a1, a2, a3, a4⟩ := rLa_I.mp h
    refine rLa_I.mpr ⟨by rw [h1 _ (by omega) (by omega)]; exact a1, by rw [h1 _ (by omega) (by omega)]; exact a2, fun c => by rw [h1 _ (by omega) (by omega)]; exact a3 c, fun c => ⟨by rw [h1 _ (by omega) (by omega)]; exact (a4 c).1, fun i hi => ?_⟩⟩
    obtain ⟨g1, g2, g3, g4⟩ := he.2.2.2 c
    rw [h1 _ (by omega) (by omega)]
    exact (a4 c).2 i hi
  intro d
  induction d with
  | zero => exact fun s u hs h1 h => key 0 s u hs h1 h
  | succ d ih =>
    intro s u hs h1 h
    rcases ST_cs s with ⟨e, rfl⟩ | ⟨t, L, rfl⟩
    · rw [rsz_I] at h1
      exact key (d + 1) e u (stOK_I.mp hs) h1 h
    · rw [rsz_A] at h1
      obtain ⟨a1, a2, a3, a4⟩ := rLa_A.mp h
      obtain ⟨t40, sb⟩ := stOK_A.mp hs
      exact rLa_A.mpr ⟨by rw [h1 _ (by omega) (by omega)]; exact a1, by rw [h1 _ (by omega) (by omega)]; exact a2, by rw [h1 _ (by omega) (by omega)]; exact a3, layL_fr L (u + 1) (fun y q hy hq hq2 hf => ih y q (sb y hy) (fun k e1 e2 => h1 k (by omega) (by omega)) hf) a4⟩
theorem rLa_ss {I I' : am_I} {d u v : Nat} {s : ST d} (hs : stOK d s) (h : rLa (I 178) d u s) (f : rSs v I I') (hv : u + rsz d s ≤ v) : rLa (I' 178) d u s := rLa_fr d s u hs (fun k e1 e2 => f _ _ (by omega) (by omega) (by omega)) h
theorem rSTQ_of (hp : am_PF Pf) (hn : n ≤ 150) {d : Nat} (hd : d ≤ 6) (hA : rAGQ Pf b n d) : rSTQ Pf b n d := by
  intro D P I J a u hD h h5 h7 h33 h3 kk
  obtain ⟨D', rfl⟩ : ∃ D', D = D' + 10 := ⟨D - 10, by omega⟩
  have ha := h.2.2.2.1
  have hne := mNE_le (b := b) ha
  have hq := rsk_le (b := b) ha
  have hst4 := stN_4 (b := b) (q := rsk b n a) (e := mNE b n a)
  unfold mSt9 at kk
  -- behind a fault: nothing more is done
  have BAD : ∀ (I' : am_I) (kd pl : Nat) (l1 l2 l3 : Option Value), rFF I I' kd pl → pl ≤ 600 → (∀ I', rFF I I' kd pl → pl ≤ 600 → P (.inl none, (am_SH, I', J, Pf), 0, 0)) → am_mth (D' + 9) 202 [.ref 163, .int 59] (am_SH, I', J, Pf) (am_af none (D' + 9) 246 90 [some (.ref 163), l1, l2, l3] [.int 59, .ref 163] [] (am_SH, I', J, Pf) 0 0 true P) := fun I' kd pl l1 l2 l3 q1 q2 kk => sr_need_nf (d := D' + 6) hp (q1.bad (by omega)) (am_back (v246_93 hp (kk I' q1 q2)))
  -- the sign behind a step
  have SEMI : ∀ (I' : am_I) (z : ST d × Nat) (l1 l2 l3 : Option Value), RM I' b n z.2 → I' 163 5 = -1 → rSs u I I' → I' 163 33 = ni (12 * (u + rsz d z.1)) → rLa (I' 178) d u z.1 → rm2 (rb (mTake b n 59 z.2) (fun e => .inr (z.1, e)) : (Nat × Nat) ⊕ (ST d × Nat)) (fun z => ∀ I', RM I' b n z.2 → rSs u I I' → I' 163 33 = ni (12 * (u + rsz d z.1)) → rLa (I' 178) d u z.1 → P (.inl none, (am_SH, I', J, Pf), 0, 0)) (fun kd pl => ∀ I', rFF I I' kd pl → pl ≤ 600 → P (.inl none, (am_SH, I', J, Pf), 0, 0)) → am_mth (D' + 9) 202 [.ref 163, .int 59] (am_SH, I', J, Pf) (am_af none (D' + 9) 246 90 [some (.ref 163), l1, l2, l3] [.int 59, .ref 163] [] (am_SH, I', J, Pf) 0 0 true P) := by
    intro I' z l1 l2 l3 r1 r2 r3 r4 r5 kk
    refine sr_need (d := D' + 6) hp (by decide) r1 r2 ?_
    cases ht : mTake b n 59 z.2 with
    | inl f =>
      rw [ht] at kk
      exact fun I2 k1 k2 => am_back (v246_93 hp (kk I2 (k1.after r3.fr) k2))
    | inr e =>
      rw [ht] at kk
      exact fun k1 => am_back (v246_93 hp (kk _ k1 (r3.trans rSs.at) (by rw [am_u_nq (by omega)]; exact r4) (by rw [am_u_o (by omega)]; exact r5)))
  refine am_mth_of rfl rfl (v246_0 hp ?_)
  refine sr_name (d := D' + 6) hp h (fun R1 => am_back (v246_4 hp ?_))
  have f1 : rSs u I (am_u I 163 4 (ni (rsk b n a))) := rSs.at
  have p4 : (am_u I 163 4 (ni (rsk b n a))) 163 4 = ni (rsk b n a) := am_u_same
  have f1' : ∀ o k, ¬ (o = 163 ∧ k = 4) → (am_u I 163 4 (ni (rsk b n a))) o k = I o k := fun o k e => am_u_nq e
  generalize am_u I 163 4 (ni (rsk b n a)) = I1 at R1 f1 p4 f1' ⊢
  have p5 : I1 163 5 = -1 := by rw [f1' _ _ (by omega)]; exact h5
  have p7 : I1 163 7 = ni (6 - d) := by rw [f1' _ _ (by omega)]; exact h7
  have p33 : I1 163 33 = ni (12 * u) := by rw [f1' _ _ (by omega)]; exact h33
  refine sr_step (d := D' + 3) hp (am_back (v246_7 hp ?_))
  rw [stp_eq ha]
  by_cases c0 : stN b (rsk b n a) (mNE b n a) = 0
  · have hm : mSt b n d a = .inl (1, rsk b n a) := by
      cases d with
      | zero => unfold mSt; rw [if_pos c0]
      | succ d => unfold mSt; rw [if_pos c0]
    rw [hm] at kk
    rw [if_pos c0, if_pos rfl, if_pos p5, p4]
    exact BAD _ 1 (rsk b n a) _ _ _ (rFF.mark f1.fr) (by have := h.2.2.2.2; omega) kk
  · rw [if_neg c0, if_neg (ni_neg1 (by omega))]
    have hl := stN_len c0
    by_cases c4 : stN b (rsk b n a) (mNE b n a) = 4
    · rw [c4, if_pos (by decide)]
      refine hA (D' + 9) _ I1 J a u (by omega) R1 ha p5 p7 p33 h3 c4 ?_
      cases hm : mSt b n d a with
      | inl f =>
        rw [hm] at kk
        exact fun I' q1 q2 => am_back (v246_34 hp (BAD I' f.1 f.2 _ _ _ (q1.after f1.fr) q2 kk))
      | inr z =>
        rw [hm] at kk
        exact fun I' q1 q2 q3 q4 q5 => am_back (v246_34 hp (SEMI I' z _ _ _ q1 q2 (f1.trans q3) q4 q5 kk))
    · have hm : mSt b n d a = rb (mSe b n (stN b (rsk b n a) (mNE b n a)) (mNE b n a)) (fun z => .inr (sI d z.1, z.2)) := by
        cases d with
        | zero => unfold mSt; rw [if_neg c0, if_neg c4]
        | succ d => unfold mSt; rw [if_neg c0, if_neg c4]
      rw [hm] at kk
      rw [if_neg (fun z => c4 (by have := (leq 3 (by omega) (by omega)).mp z; omega))]
      refine sr_pass (d := D' + 7) hp R1 (fun R2 => am_back (v246_41 hp ?_))
      have eN : ltF b (n - rsk b n a) (rsk b n a) = mNE b n a := rfl
      rw [eN] at R2 ⊢
      have f2 : rSs u I (am_u I1 163 4 (ni (mNE b n a))) := f1.trans rSs.at
      have g2 : ∀ o k, ¬ (o = 163 ∧ k = 4) → (am_u I1 163 4 (ni (mNE b n a))) o k = I o k := fun o k e => (am_u_nq e).trans (f1' o k e)
      generalize am_u I1 163 4 (ni (mNE b n a)) = I2 at R2 f2 g2 ⊢
      have s5 : I2 163 5 = -1 := by rw [g2 _ _ (by omega)]; exact h5
      have s33 : I2 163 33 = ni (12 * u) := by rw [g2 _ _ (by omega)]; exact h33
      generalize hkd : stN b (rsk b n a) (mNE b n a) = kd at *
      have hu50 : u + 1 ≤ 50 := by omega
      rw [show (24 : Int32) = ni 25 - ni 1 from by decide]
      refine sr_num (d := D' + 6) (lim := 25) hp (by omega) R2 s5 ?_
      unfold mSe at kk
      cases h1 : mNum b n 25 (mNE b n a) with
      | inl f =>
        rw [h1] at kk
        intro I' q1 q2
        have qb := q1.bad (by omega)
        refine am_back (v246_48 hp ?_)
        have Q1 := q1.after f2.fr
        have TL : ∀ l1 l2 l3, am_go none (D' + 9) 246 (80, [some (.ref 163), some (.int l1), some (.int l2), some (.int l3)], [], (am_SH, I', J, Pf), 0, 0) P := fun l1 l2 l3 => v246_80 hp (sr_tells_nf (d := D' + 7) hp qb (am_back (v246_87 hp (BAD I' f.1 f.2 _ _ _ Q1 q2 kk))))
        by_cases c1 : kd = 1
        · rw [if_pos ((leq 0 (by omega) (by omega)).mpr (by omega)), if_neg qb]
          exact TL _ _ _
        · rw [if_neg (fun z => c1 (by have := (leq 0 (by omega) (by omega)).mp z; omega))]
          refine sr_num_nf (d := D' + 6) hp qb (am_back (v246_64 hp ?_))
          rw [if_neg (fun z => c1 (by have := (leq 0 (by omega) (by omega)).mp z; omega))]
          exact TL _ _ _
      | inr y =>
        rw [h1] at kk
        dsimp only [rb] at kk
        obtain ⟨g1, g2', g3⟩ := mNum_ge hne.2 h1
        intro R3 _
        refine am_back (v246_48 hp ?_)
        have f3 : rSs u I (am_u I2 163 4 (ni y.2)) := f2.trans rSs.at
        have s35 : (am_u I2 163 4 (ni y.2)) 163 5 = -1 := (am_u_nq (by omega)).trans s5
        have s333 : (am_u I2 163 4 (ni y.2)) 163 33 = ni (12 * u) := (am_u_nq (by omega)).trans s33
        generalize am_u I2 163 4 (ni y.2) = I3 at R3 f3 s35 s333 ⊢
        by_cases c1 : kd = 1
        · rw [if_pos c1] at kk
          rw [if_pos ((leq 0 (by omega) (by omega)).mpr (by omega)), if_pos s35]
          refine sr_short (d := D' + 4) hp R3 s35 ?_
          cases h2 : mShort b n y.2 with
          | inl f =>
            rw [h2] at kk
            intro I' q1 q2
            have qb := q1.bad (by omega)
            exact am_back (v246_80 hp (sr_tells_nf (d := D' + 7) hp qb (am_back (v246_87 hp (BAD I' f.1 f.2 _ _ _ (q1.after f3.fr) q2 kk)))))
          | inr x =>
            rw [h2] at kk
            obtain ⟨m1, m2, m3, m4, m5⟩ := mShort_ok g2' h2
            intro I4 W4 _
            obtain ⟨w1, w2, w3, w4, w5, w6, w7, w8, w9, w10⟩ := W4
            have f4 : rSs u I I4 := f3.trans (fun o k e1 e2 e3 => w10 o k e2 (by omega))
            refine am_back (v246_80 hp ?_)
            rw [c1]
            refine sr_tells (d := D' + 7) (k := 0) (m := x.1.length) hp w2 (by rw [w10 _ _ (by omega) (by omega)]; exact s333) hu50 (by omega) (fun _ => ⟨w3, m4⟩) (fun I5 t1 t2 t3 t4 t5 t6 => am_back (v246_87 hp ?_))
            obtain ⟨t41, t42⟩ := t4 rfl
            refine SEMI I5 (sI d (1, y.1, x.1.length, x.1), x.2.2 + 1) _ _ _ ⟨by rw [← w1.1]; funext k; exact t6 _ _ (by omega) (by omega), by rw [t6 _ _ (by omega) (by omega)]; exact w1.2.1, by rw [t6 _ _ (by omega) (by omega)]; exact w1.2.2.1, w1.2.2.2⟩ (by rw [t6 _ _ (by omega) (by omega)]; exact w2) (f4.trans (fun o k e1 e2 e3 => t6 o k (by omega) e3)) (by show _ = ni (12 * (u + rsz d (sI d _))); rw [rsz_I]; exact t5) (rLa_I.mpr ⟨t1, t2, fun z => absurd rfl z, fun _ => ⟨t41, fun i hi => by rw [t42 i hi]; exact w6 i hi⟩⟩) kk
        · rw [if_neg c1] at kk
          rw [if_neg (fun z => c1 (by have := (leq 0 (by omega) (by omega)).mp z; omega))]
          refine sr_num (d := D' + 6) (lim := 25) hp (by omega) R3 s35 ?_
          cases h2 : mNum b n 25 y.2 with
          | inl f =>
            rw [h2] at kk
            intro I' q1 q2
            have qb := q1.bad (by omega)
            refine am_back (v246_64 hp ?_)
            rw [if_neg (fun z => c1 (by have := (leq 0 (by omega) (by omega)).mp z; omega))]
            exact v246_80 hp (sr_tells_nf (d := D' + 7) hp qb (am_back (v246_87 hp (BAD I' f.1 f.2 _ _ _ (q1.after f3.fr) q2 kk))))
          | inr x =>
            rw [h2] at kk
            intro R4 _
            refine am_back (v246_64 hp ?_)
            rw [if_neg (fun z => c1 (by have := (leq 0 (by omega) (by omega)).mp z; omega))]
            refine v246_80 hp ?_
            have f4 : rSs u I (am_u I3 163 4 (ni x.2)) := f3.trans rSs.at
            refine sr_tells (d := D' + 7) (k := kd - 1) (m := 0) hp ((am_u_nq (by omega)).trans s35) ((am_u_nq (by omega)).trans s333) hu50 (by omega) (fun z => absurd z (by omega)) (fun I5 t1 t2 t3 t4 t5 t6 => am_back (v246_87 hp ?_))
            refine SEMI I5 (sI d (kd, y.1, x.1, []), x.2) _ _ _ ⟨by rw [← R4.1]; funext k; exact t6 _ _ (by omega) (by omega), by rw [t6 _ _ (by omega) (by omega)]; exact R4.2.1, by rw [t6 _ _ (by omega) (by omega)]; exact R4.2.2.1, R4.2.2.2⟩ (by rw [t6 _ _ (by omega) (by omega)]; exact (am_u_nq (by omega)).trans s35) (f4.trans (fun o k e1 e2 e3 => t6 o k (by omega) e3)) (by show _ = ni (12 * (u + rsz d (sI d _))); rw [rsz_I]; exact t5) (rLa_I.mpr ⟨t1, t2, fun _ => t3, fun z => absurd z c1⟩) kk
end RWK
