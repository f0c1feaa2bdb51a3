/-! The reference's reading methods -/
theorem ni_l (n : Nat) : (@OfNat.ofNat Int32 n _) = ni (@OfNat.ofNat Nat n _) := rfl
theorem ni_m1 {a : Nat} (h : a < 2147483648) : (ni a = -ni 1) = False := eq_false (ni_neg1 h)
theorem lle {a : Nat} (k : Nat) (ha : a < 2147483648) (hk : k < 2147483648) : (ni a ≤ @OfNat.ofNat Int32 k _) ↔ a ≤ k := ni_le ha hk
theorem gle {a : Nat} (k : Nat) (ha : k < 2147483648) (hk : a < 2147483648) : (@OfNat.ofNat Int32 k _ ≤ ni a) ↔ k ≤ a := ni_le ha hk
theorem llt {a : Nat} (k : Nat) (ha : a < 2147483648) (hk : k < 2147483648) : (ni a < @OfNat.ofNat Int32 k _) ↔ a < k := ni_lt ha hk
theorem glt {a : Nat} (k : Nat) (ha : k < 2147483648) (hk : a < 2147483648) : (@OfNat.ofNat Int32 k _ < ni a) ↔ k < a := ni_lt ha hk
theorem leq {a : Nat} (k : Nat) (ha : a < 2147483648) (hk : k < 2147483648) : (ni a = @OfNat.ofNat Int32 k _) ↔ a = k := ni_inj ha hk
theorem nleT {a b : Nat} (h : a ≤ b) : (a ≤ b) = True := eq_true h
theorem nleF {a b : Nat} (h : b < a) : (a ≤ b) = False := eq_false (by omega)
theorem nltT {a b : Nat} (h : a < b) : (a < b) = True := eq_true h
theorem nltF {a b : Nat} (h : b ≤ a) : (a < b) = False := eq_false (by omega)
theorem neqT {a b : Nat} (h : a = b) : (a = b) = True := eq_true h
theorem neqF {a b : Nat} (h : ¬ a = b) : (a = b) = False := eq_false h
theorem am_uA {α : Type} {f : Nat → Nat → α} {o k o' k' : Nat} {v : α} : am_u f o k v o' k' = if o' = o then (if k' = k then v else f o' k') else f o' k' := rfl
theorem am_iT {a L : Nat} (h : a < 2147483648) (hL : a < L) : (am_in (ni a) L = true) = True := eq_true (ni_in h hL)
theorem ni_zT : (ni 0 = ni 0 ∨ ni 0 = ni 1) = True := eq_true (Or.inl rfl)
theorem ni_oT : (ni 1 = ni 0 ∨ ni 1 = ni 1) = True := eq_true (Or.inr rfl)
/-- the reference reads: its tape, how long the text is, where it stands -/
def RM (I : am_I) (b : Nat → Int32) (n a : Nat) : Prop := I 165 = b ∧ I 163 3 = ni n ∧ I 163 4 = ni a ∧ a ≤ n ∧ n ≤ 600
/-- what is scratch while the reference reads -/
def rSc (o k : Nat) : Prop := (o = 163 ∧ (k = 4 ∨ k = 5 ∨ k = 6 ∨ k = 7 ∨ k = 14 ∨ k = 15 ∨ k = 16 ∨ k = 17 ∨ k = 18 ∨ k = 19 ∨ k = 28 ∨ k = 33)) ∨ o = 166 ∨ o = 168 ∨ o = 172 ∨ o = 173 ∨ o = 178
def rFr (I I' : am_I) : Prop := ∀ o k, ¬ rSc o k → I' o k = I o k
/-- a fault has come -/
def rFF (I I' : am_I) (kind pl : Nat) : Prop := I' 163 5 = ni pl ∧ I' 163 6 = ni kind ∧ rFr I I'
/-- nothing comes behind a fault -/
def rNF (I I' : am_I) : Prop := I' 163 5 = I 163 5 ∧ I' 163 6 = I 163 6 ∧ rFr I I'
theorem rFr.rfl' {I : am_I} : rFr I I := fun _ _ _ => rfl
theorem rFr.trans {I I' I'' : am_I} (h : rFr I I') (g : rFr I' I'') : rFr I I'' := fun o k e => (g o k e).trans (h o k e)
theorem rFr.u {I I' : am_I} (h : rFr I I') {o k : Nat} {v : Int32} (e : rSc o k) : rFr I (am_u I' o k v) := by
  intro o' k' e'
  rw [am_u_nq]
  · exact h o' k' e'
  · rintro ⟨rfl, rfl⟩; exact e' e
theorem rFr.row {I I' : am_I} (h : rFr I I') {o k : Nat} {v : Int32} (e : ∀ k, rSc o k) : rFr I (am_u I' o k v) := h.u (e k)
theorem rNF.rfl' {I : am_I} : rNF I I := ⟨rfl, rfl, rFr.rfl'⟩
theorem rNF.trans {I I' I'' : am_I} (h : rNF I I') (g : rNF I' I'') : rNF I I'' := ⟨g.1.trans h.1, g.2.1.trans h.2.1, h.2.2.trans g.2.2⟩
theorem rNF.u {I I' : am_I} (h : rNF I I') {o k : Nat} {v : Int32} (e : rSc o k) (e5 : ¬ (o = 163 ∧ (k = 5 ∨ k = 6))) : rNF I (am_u I' o k v) := ⟨by rw [am_u_nq (by omega)]; exact h.1, by rw [am_u_nq (by omega)]; exact h.2.1, h.2.2.u e⟩
theorem rFF.then {I I' I'' : am_I} {kd pl : Nat} (h : rFF I I' kd pl) (g : rNF I' I'') : rFF I I'' kd pl := ⟨g.1.trans h.1, g.2.1.trans h.2.1, h.2.2.trans g.2.2⟩
theorem rFF.after {I I' I'' : am_I} {kd pl : Nat} (h : rFr I I') (g : rFF I' I'' kd pl) : rFF I I'' kd pl := ⟨g.1, g.2.1, h.trans g.2.2⟩
theorem rFF.bad {I I' : am_I} {kd pl : Nat} (h : rFF I I' kd pl) (hp : pl < 2147483648) : ¬ I' 163 5 = -1 := by rw [h.1]; exact ni_neg1 hp
theorem rNF.bad {I I' : am_I} (h : rNF I I') (hb : ¬ I 163 5 = -1) : ¬ I' 163 5 = -1 := by rw [h.1]; exact hb
theorem rFF.mark {I I' : am_I} {kd pl : Nat} (h : rFr I I') : rFF I (am_u (am_u I' 163 5 (ni pl)) 163 6 (ni kd)) kd pl := ⟨rfl, rfl, (h.u (by simp [rSc])).u (by simp [rSc])⟩
theorem RM.at {I : am_I} {b : Nat → Int32} {n a a' : Nat} (h : RM I b n a) (h' : a' ≤ n) : RM (am_u I 163 4 (ni a')) b n a' := by
  obtain ⟨h1, h2, h3, h4, h5⟩ := h
  exact ⟨by rw [am_u_o (by omega)]; exact h1, by rw [am_u_nq (by omega)]; exact h2, am_u_same, h', h5⟩
theorem RM.of {I I' : am_I} {b : Nat → Int32} {n a a' : Nat} (h : RM I b n a) (hf : rFr I I') (h' : a' ≤ n) (e : I' 163 4 = ni a') : RM I' b n a' := by
  obtain ⟨h1, h2, h3, h4, h5⟩ := h
  exact ⟨by rw [← h1]; funext k; exact hf _ _ (by simp [rSc]), by rw [← h2]; exact hf _ _ (by simp [rSc]), e, h', h5⟩
/-- the byte here, 0 behind the last -/
def hz (b : Nat → Int32) (n a : Nat) : Int32 := if a < n then b a else 0
section RRD
variable {d : Nat} {P : am_O → Prop} {I : am_I} {J : am_J} {Pf : am_R} {n a : Nat} {b : Nat → Int32}
theorem rr_here (hp : am_PF Pf) : ∀ (f : Nat) (I : am_I) (a : Nat), n - a = f → RM I b n a → P (.inl (some (.int (hz b n (rsk b n a)))), (am_SH, am_u I 163 4 (ni (rsk b n a)), J, Pf), 0, 0) → am_go none d 195 (0, [some (.ref 163)], [], (am_SH, I, J, Pf), 0, 0) P := by
  intro f
  induction f with
  | zero =>
    intro I a hf h kk
    obtain ⟨h1, h2, h3, h4, h5⟩ := h
    have e1 : rsk b n a = a := by unfold rsk; rw [hf]; rfl
    rw [e1, am_u_self h3, show hz b n a = 0 from if_neg (by omega)] at kk
    refine v195_0 hp ?_
    simp (disch := omega) only [↓reduceIte, ni_l, ni_add, ni_sub, ni_mul, ni_nat, ni_lt, ni_le, ni_inj, ni_m1, nleT, nleF, nltT, nltF, neqT, neqF, am_uA, am_u_o, am_iT, and_true, true_and, not_true_eq_false, not_false_eq_true, and_self, or_true, true_or, or_false, false_or, ni_zT, ni_oT, h1, h2, h3]
    refine v195_38 hp ?_
    simp (disch := omega) only [↓reduceIte, ni_l, ni_add, ni_sub, ni_mul, ni_nat, ni_lt, ni_le, ni_inj, ni_m1, nleT, nleF, nltT, nltF, neqT, neqF, am_uA, am_u_o, am_iT, and_true, true_and, not_true_eq_false, not_false_eq_true, and_self, or_true, true_or, or_false, false_or, ni_zT, ni_oT, h1, h2, h3]
    exact kk
  | succ f ih =>
    intro I a hf h kk
    have hR := h
    obtain ⟨h1, h2, h3, h4, h5⟩ := h
    refine v195_0 hp ?_
    simp (disch := omega) only [↓reduceIte, ni_l, ni_add, ni_sub, ni_mul, ni_nat, ni_lt, ni_le, ni_inj, ni_m1, nleT, nleF, nltT, nltF, neqT, neqF, am_uA, am_u_o, am_iT, and_true, true_and, not_true_eq_false, not_false_eq_true, and_self, or_true, true_or, or_false, false_or, ni_zT, ni_oT, h1, h2, h3]
    by_cases c : b a = ni 32
    · have e1 : rsk b n a = rsk b n (a + 1) := by
        unfold rsk
        rw [hf, show n - (a + 1) = f by omega]
        exact if_pos c
      rw [if_pos c]
      refine ih _ (a + 1) (by omega) (hR.at (by omega)) ?_
      rw [am_u_u, ← e1]
      exact kk
    · have e1 : rsk b n a = a := by
        unfold rsk
        rw [hf]
        exact if_neg c
      rw [if_neg c]
      rw [e1, am_u_self h3, show hz b n a = b a from if_pos (by omega)] at kk
      refine v195_38 hp ?_
      simp (disch := omega) only [↓reduceIte, ni_l, ni_add, ni_sub, ni_mul, ni_nat, ni_lt, ni_le, ni_inj, ni_m1, nleT, nleF, nltT, nltF, neqT, neqF, am_uA, am_u_o, am_iT, and_true, true_and, not_true_eq_false, not_false_eq_true, and_self, or_true, true_or, or_false, false_or, ni_zT, ni_oT, h1, h2, h3]
      exact kk
theorem sr_here (hp : am_PF Pf) (h : RM I b n a) (kk : P (.inl (some (.int (hz b n (rsk b n a)))), (am_SH, am_u I 163 4 (ni (rsk b n a)), J, Pf), 0, 0)) : am_mth (d + 1) 195 [.ref 163] (am_SH, I, J, Pf) P :=
  am_mth_of rfl rfl (rr_here hp _ I a rfl h kk)
end RRD
/-! faults: values -/
theorem u_5 {I : am_I} {o k : Nat} {v : Int32} (h : ¬ (o = 163 ∧ k = 5)) (e : I 163 5 = -1) : am_u I o k v 163 5 = -1 := by rw [am_u_nq (by omega)]; exact e
/-- a number -/
def mNum (b : Nat → Int32) (n lim a : Nat) : (Nat × Nat) ⊕ (Nat × Nat) :=
  if isDg (hz b n (rsk b n a)) = true then (if (dgF b (n - rsk b n a) (rsk b n a) 0).1 < lim then .inr (dgF b (n - rsk b n a) (rsk b n a) 0) else .inl (2, rsk b n a)) else .inl (1, rsk b n a)
def mTake (b : Nat → Int32) (n : Nat) (x : Int32) (a : Nat) : (Nat × Nat) ⊕ Nat := if hz b n (rsk b n a) = x then .inr (rsk b n a + 1) else .inl (1, rsk b n a)
def rb {α β : Type} (m : (Nat × Nat) ⊕ α) (f : α → (Nat × Nat) ⊕ β) : (Nat × Nat) ⊕ β := match m with
  | .inl e => .inl e
  | .inr v => f v
def rm2 {α : Type} (m : (Nat × Nat) ⊕ α) (K : α → Prop) (F : Nat → Nat → Prop) : Prop := match m with
  | .inl e => F e.1 e.2
  | .inr v => K v
theorem isDg_d {x : Int32} : (isDg x = true) ↔ (¬ x < 48 ∧ ¬ 57 < x) := by
  unfold isDg
  rw [decide_eq_true_iff, i_nlt, i_nlt]
section RR2
variable {d : Nat} {P : am_O → Prop} {I : am_I} {J : am_J} {Pf : am_R} {n a : Nat} {b : Nat → Int32}
theorem rr_dig (hp : am_PF Pf) {l3 : Option Value} {x1 x2 x4 : Int32} : ∀ (f : Nat) (I : am_I) (a v w : Nat), n - a = f → RM I b n a → (v = w ∨ (10000 ≤ v ∧ v < 200000 ∧ 10000 ≤ w)) → v < 200000 →
    (∀ v', (v' = (dgF b f a w).1 ∨ (10000 ≤ v' ∧ v' < 200000 ∧ 10000 ≤ (dgF b f a w).1)) → v' < 200000 → RM (am_u I 163 4 (ni (dgF b f a w).2)) b n (dgF b f a w).2 → am_go none (d + 1) 201 (114, [some (.ref 163), some (.int x1), some (.int x2), l3, some (.int x4), some (.int (ni v'))], [], (am_SH, am_u I 163 4 (ni (dgF b f a w).2), J, Pf), 0, 0) P) →
    am_go none (d + 1) 201 (41, [some (.ref 163), some (.int x1), some (.int x2), l3, some (.int x4), some (.int (ni v))], [], (am_SH, I, J, Pf), 0, 0) P := by
  intro f
  induction f with
  | zero =>
    intro I a v w hf h hvw hv kk
    have hR := h
    obtain ⟨h1, h2, h3, h4, h5⟩ := h
    have := kk v hvw hv
    rw [show (dgF b 0 a w).2 = a from rfl, am_u_self h3] at this
    refine v201_41 hp ?_
    simp (disch := omega) only [↓reduceIte, ni_l, ni_add, ni_sub, ni_mul, ni_nat, ni_lt, ni_le, ni_inj, ni_m1, nleT, nleF, nltT, nltF, neqT, neqF, am_uA, am_u_o, am_iT, and_true, true_and, not_true_eq_false, not_false_eq_true, and_self, or_true, true_or, or_false, false_or, ni_zT, ni_oT, h1, h2, h3]
    exact this hR
  | succ f ih =>
    intro I a v w hf h hvw hv kk
    have hR := h
    obtain ⟨h1, h2, h3, h4, h5⟩ := h
    have stop : isDg (b a) ≠ true → am_go none (d + 1) 201 (114, [some (.ref 163), some (.int x1), some (.int x2), l3, some (.int x4), some (.int (ni v))], [], (am_SH, I, J, Pf), 0, 0) P := by
      intro hd
      have e : dgF b (f + 1) a w = (w, a) := if_neg hd
      rw [e] at kk
      have := kk v hvw hv
      dsimp only at this
      rw [am_u_self h3] at this
      exact this hR
    refine v201_41 hp ?_
    simp (disch := omega) only [↓reduceIte, ni_l, ni_add, ni_sub, ni_mul, ni_nat, ni_lt, ni_le, ni_inj, ni_m1, nleT, nleF, nltT, nltF, neqT, neqF, am_uA, am_u_o, am_iT, and_true, true_and, not_true_eq_false, not_false_eq_true, and_self, or_true, true_or, or_false, false_or, ni_zT, ni_oT, h1, h2, h3]
    split
    · rename_i c
      refine stop (fun z => ?_)
      exact absurd c (isDg_d.mp z).1
    · split
      · rename_i c
        refine stop (fun z => ?_)
        exact absurd c (isDg_d.mp z).2
      · rename_i c1 c2
        have hd : isDg (b a) = true := isDg_d.mpr ⟨c1, c2⟩
        have e : dgF b (f + 1) a w = dgF b f (a + 1) (10 * w + ((b a).toNatClampNeg - 48)) := if_pos hd
        rw [e] at kk
        obtain ⟨c, hc, hc1, hc2⟩ := isDg_ni hd
        rw [hc, ni_nat (by omega)] at kk
        have go : ∀ v1, (v1 = 10 * w + (c - 48) ∨ (10000 ≤ v1 ∧ v1 < 200000 ∧ 10000 ≤ 10 * w + (c - 48))) → v1 < 200000 → am_go none (d + 1) 201 (41, [some (.ref 163), some (.int x1), some (.int x2), l3, some (.int x4), some (.int (ni v1))], [], (am_SH, am_u I 163 4 (ni (a + 1)), J, Pf), 0, 0) P := by
          intro v1 g1 g2
          refine ih _ (a + 1) v1 (10 * w + (c - 48)) (by omega) (hR.at (by omega)) g1 g2 ?_
          intro v' g3 g4
          rw [am_u_u]
          exact kk v' g3 g4
        rw [hc]
        by_cases hv9 : v ≤ 9999
        · simp (disch := omega) only [↓reduceIte, ni_l, ni_add, ni_sub, ni_mul, ni_nat, ni_lt, ni_le, ni_inj, ni_m1, nleT, nleF, nltT, nltF, neqT, neqF, am_uA, am_u_o, am_iT, and_true, true_and, not_true_eq_false, not_false_eq_true, and_self, or_true, true_or, or_false, false_or, ni_zT, ni_oT]
          exact go _ (by omega) (by omega)
        · simp (disch := omega) only [↓reduceIte, ni_l, ni_add, ni_sub, ni_mul, ni_nat, ni_lt, ni_le, ni_inj, ni_m1, nleT, nleF, nltT, nltF, neqT, neqF, am_uA, am_u_o, am_iT, and_true, true_and, not_true_eq_false, not_false_eq_true, and_self, or_true, true_or, or_false, false_or, ni_zT, ni_oT]
          exact go _ (by omega) (by omega)
theorem ni_leL {v lim : Nat} (h : v < 200000) (hl : lim ≤ 1000) : (ni v ≤ ni lim - ni 1) ↔ v < lim := by
  rw [Int32.le_iff_toInt_le]
  by_cases c : lim = 0
  · subst c
    rw [ni_int (by omega)]
    have : (ni 0 - ni 1).toInt = -1 := by decide
    omega
  · rw [ni_sub (by omega), ni_int (by omega), ni_int (by omega)]
    omega
theorem hz_0 {x : Int32} (h : hz b n a = x) (hx : x ≠ 0) : a < n := by
  unfold hz at h
  split at h
  · assumption
  · exact absurd h.symm hx
theorem sr_num (hp : am_PF Pf) {lim : Nat} (hl : lim ≤ 1000) (h : RM I b n a) (h5 : I 163 5 = -1)
    (kk : rm2 (mNum b n lim a) (fun z => RM (am_u I 163 4 (ni z.2)) b n z.2 → z.1 < lim → P (.inl (some (.int (ni z.1))), (am_SH, am_u I 163 4 (ni z.2), J, Pf), 0, 0)) (fun kd pl => ∀ I', rFF I I' kd pl → pl ≤ 600 → P (.inl (some (.int 0)), (am_SH, I', J, Pf), 0, 0))) :
    am_mth (d + 3) 201 [.ref 163, .int 0, .int (ni lim - ni 1)] (am_SH, I, J, Pf) P := by
  have hR := h
  obtain ⟨h1, h2, h3, h4, h6⟩ := h
  have hq := rsk_le (b := b) h4
  have hfr : rFr I (am_u I 163 4 (ni (rsk b n a))) := rFr.rfl'.u (by simp [rSc])
  unfold mNum at kk
  refine am_mth_of rfl rfl (v201_0 hp ?_)
  simp (disch := omega) only [↓reduceIte, ni_l, ni_add, ni_sub, ni_mul, ni_nat, ni_lt, ni_le, ni_inj, ni_m1, nleT, nleF, nltT, nltF, neqT, neqF, am_uA, am_u_o, am_iT, and_true, true_and, not_true_eq_false, not_false_eq_true, and_self, or_true, true_or, or_false, false_or, ni_zT, ni_oT, h5]
  refine sr_here hp hR (am_back (v201_13 hp ?_))
  have u5 : am_u I 163 4 (ni (rsk b n a)) 163 5 = -1 := u_5 (by omega) h5
  generalize hqq : rsk b n a = q at *
  split
  · rename_i c
    rw [if_neg (fun z => absurd c (isDg_d.mp z).1)] at kk
    simp (disch := omega) only [↓reduceIte, ni_l, ni_add, ni_sub, ni_mul, ni_nat, ni_lt, ni_le, ni_inj, ni_m1, nleT, nleF, nltT, nltF, neqT, neqF, am_uA, am_u_o, am_iT, and_true, true_and, not_true_eq_false, not_false_eq_true, and_self, or_true, true_or, or_false, false_or, ni_zT, ni_oT, u5, am_u_same]
    exact kk _ (rFF.mark hfr) (by omega)
  · split
    · rename_i c
      rw [if_neg (fun z => absurd c (isDg_d.mp z).2)] at kk
      simp (disch := omega) only [↓reduceIte, ni_l, ni_add, ni_sub, ni_mul, ni_nat, ni_lt, ni_le, ni_inj, ni_m1, nleT, nleF, nltT, nltF, neqT, neqF, am_uA, am_u_o, am_iT, and_true, true_and, not_true_eq_false, not_false_eq_true, and_self, or_true, true_or, or_false, false_or, ni_zT, ni_oT, u5, am_u_same]
      exact kk _ (rFF.mark hfr) (by omega)
    · rename_i c1 c2
      rw [if_pos (isDg_d.mpr ⟨c1, c2⟩)] at kk
      rw [am_u_same]
      refine rr_dig hp (n - q) _ q 0 0 rfl (hR.at hq.2) (Or.inl rfl) (by omega) ?_
      intro v' g1 g2 gR
      rw [am_u_u] at gR ⊢
      have hbnd := gR.2.2.2.1
      refine v201_114 hp ?_
      have c0 : ¬ (ni v' < ni 0) := ni_nonneg (by omega)
      have u5' : am_u I 163 4 (ni (dgF b (n - q) q 0).2) 163 5 = -1 := u_5 (by omega) h5
      by_cases hv : v' < lim
      · have cl : ni v' ≤ ni lim - ni 1 := (ni_leL (by omega) hl).mpr hv
        have e : v' = (dgF b (n - q) q 0).1 := by omega
        rw [if_pos (by omega)] at kk
        rw [if_neg c0, if_pos cl]
        rw [e]
        exact kk gR (by omega)
      · have cl : ¬ (ni v' ≤ ni lim - ni 1) := fun z => hv ((ni_leL (by omega) hl).mp z)
        rw [if_neg (by omega)] at kk
        rw [if_neg c0, if_neg cl, if_pos u5']
        exact kk _ (rFF.mark (rFr.rfl'.u (by simp [rSc]))) (by omega)
theorem sr_num_nf (hp : am_PF Pf) {x y : Int32} (h5 : ¬ I 163 5 = -1) (kk : P (.inl (some (.int 0)), (am_SH, I, J, Pf), 0, 0)) : am_mth (d + 3) 201 [.ref 163, .int x, .int y] (am_SH, I, J, Pf) P := by
  refine am_mth_of rfl rfl (v201_0 hp ?_)
  rw [if_neg h5]
  exact kk
theorem sr_need (hp : am_PF Pf) {x : Int32} (hx : x ≠ 0) (h : RM I b n a) (h5 : I 163 5 = -1)
    (kk : rm2 (mTake b n x a) (fun z => RM (am_u I 163 4 (ni z)) b n z → P (.inl none, (am_SH, am_u I 163 4 (ni z), J, Pf), 0, 0)) (fun kd pl => ∀ I', rFF I I' kd pl → pl ≤ 600 → P (.inl none, (am_SH, I', J, Pf), 0, 0))) :
    am_mth (d + 3) 202 [.ref 163, .int x] (am_SH, I, J, Pf) P := by
  have hR := h
  obtain ⟨h1, h2, h3, h4, h6⟩ := h
  have hq := rsk_le (b := b) h4
  unfold mTake at kk
  refine am_mth_of rfl rfl (v202_0 hp ?_)
  rw [if_pos h5]
  refine sr_here hp hR (am_back (v202_11 hp ?_))
  have u5 : am_u I 163 4 (ni (rsk b n a)) 163 5 = -1 := u_5 (by omega) h5
  generalize hqq : rsk b n a = q at *
  by_cases c : hz b n q = x
  · have hlt := hz_0 c hx
    rw [if_pos c] at kk
    rw [if_pos c]
    refine v202_24 hp ?_
    rw [if_pos u5, am_u_same, am_u_u, ni_1, ni_add]
    exact kk (hR.at (by omega))
  · rw [if_neg c] at kk
    rw [if_neg c, if_pos u5]
    refine v202_24 hp ?_
    have hF : rFF I (am_u (am_u (am_u I 163 4 (ni q)) 163 5 (am_u I 163 4 (ni q) 163 4)) 163 6 1) 1 q := by
      rw [am_u_same]
      exact rFF.mark (rFr.rfl'.u (by simp [rSc]))
    rw [if_neg (hF.bad (by omega))]
    exact kk _ hF (by omega)
theorem sr_need_nf (hp : am_PF Pf) {x : Int32} (h5 : ¬ I 163 5 = -1) (kk : P (.inl none, (am_SH, I, J, Pf), 0, 0)) : am_mth (d + 3) 202 [.ref 163, .int x] (am_SH, I, J, Pf) P := by
  refine am_mth_of rfl rfl (v202_0 hp ?_)
  rw [if_neg h5]
  refine v202_24 hp ?_
  rw [if_neg h5]
  exact kk
theorem sr_more (hp : am_PF Pf) (h : RM I b n a) (kk : RM (am_u I 163 4 (ni (rsk b n a))) b n (rsk b n a) → P (.inl (some (.int (if rsk b n a < n then 1 else 0))), (am_SH, am_u I 163 4 (ni (rsk b n a)), J, Pf), 0, 0)) : am_mth (d + 2) 203 [.ref 163] (am_SH, I, J, Pf) P := by
  have hq := rsk_le (b := b) h.2.2.2.1
  have hR := h.at hq.2
  refine am_mth_of rfl rfl (v203_0 hp (sr_here hp h (am_back (v203_4 hp ?_))))
  have kk := kk hR
  obtain ⟨g1, g2, g3, g4, g5⟩ := hR
  rw [g2, g3]
  by_cases c : rsk b n a < n
  · rw [if_pos c] at kk
    simp (disch := omega) only [↓reduceIte, ni_l, ni_add, ni_sub, ni_mul, ni_nat, ni_lt, ni_le, ni_inj, ni_m1, nleT, nleF, nltT, nltF, neqT, neqF, am_uA, am_u_o, am_iT, and_true, true_and, not_true_eq_false, not_false_eq_true, and_self, or_true, true_or, or_false, false_or, ni_zT, ni_oT]
    exact kk
  · rw [if_neg c] at kk
    simp (disch := omega) only [↓reduceIte, ni_l, ni_add, ni_sub, ni_mul, ni_nat, ni_lt, ni_le, ni_inj, ni_m1, nleT, nleF, nltT, nltF, neqT, neqF, am_uA, am_u_o, am_iT, and_true, true_and, not_true_eq_false, not_false_eq_true, and_self, or_true, true_or, or_false, false_or, ni_zT, ni_oT]
    exact kk
/-- a sign, no blanks passed -/
theorem sr_sign (hp : am_PF Pf) {w : Int32} (hw : w = 0 ∨ w = 1) (h : RM I b n a) (h5 : I 163 5 = -1)
    (k1 : sgOk b n w a = true → RM (am_u I 163 4 (ni (sgA b n a + 1))) b n (sgA b n a + 1) → P (.inl (some (.int (hv b n (sgA b n a)))), (am_SH, am_u I 163 4 (ni (sgA b n a + 1)), J, Pf), 0, 0))
    (k2 : sgOk b n w a = false → ∀ I', rFF I I' 1 (sgA b n a) → sgA b n a ≤ 600 → P (.inl (some (.int 0)), (am_SH, I', J, Pf), 0, 0)) :
    am_mth (d + 3) 212 [.ref 163, .int w] (am_SH, I, J, Pf) P := by
  have hR := h
  obtain ⟨h1, h2, h3, h4, h6⟩ := h
  have hA := sgA_le (b := b) h4
  have bad : ∀ (x2 : Int32) (l1 : Option Value), sgA b n a = a → sgOk b n w a = false → am_go none (d + 1 + 1) 212 (95, [some (.ref 163), l1, some (.int x2)], [], (am_SH, I, J, Pf), 0, 0) P := by
    intro x2 l1 e1 e2
    refine v212_95 hp ?_
    rw [if_pos h5, h3, if_neg (ni_neg1 (by omega))]
    rw [e1] at k2
    exact k2 e2 _ (rFF.mark rFr.rfl') (by omega)
  have good : ∀ (x2 : Int32), x2 = hv b n a → sgA b n a = a → sgOk b n w a = true → a < n → P (.inl (some (.int x2)), (am_SH, am_u I 163 4 ((I 163 4) + 1), J, Pf), 0, 0) := by
    intro x2 e0 e1 e2 e3
    rw [e1] at k1
    rw [h3, ni_1, ni_add, e0]
    exact k1 e2 (hR.at (by omega))
  have h32 : ∀ x : Int32, (isSg x = true) ↔ (¬ x < 32 ∧ ¬ 127 ≤ x) := by
    intro x
    unfold isSg
    rw [decide_eq_true_iff, i_nlt, i_nle]
    constructor
    · rintro ⟨z1, z2⟩
      exact ⟨z1, Int32.lt_of_le_of_lt z2 (by decide)⟩
    · rintro ⟨z1, z2⟩
      refine ⟨z1, ?_⟩
      rw [Int32.lt_iff_toInt_lt] at z2
      rw [Int32.le_iff_toInt_le]
      have e1 : (127 : Int32).toInt = 127 := by decide
      have e2 : (126 : Int32).toInt = 126 := by decide
      omega
  refine am_mth_of rfl rfl (v212_0 hp ?_)
  rw [if_pos h5]
  by_cases hn : n ≤ a
  · have ev : hv b n a = -1 := if_neg (by omega)
    have e1 : sgA b n a = a := if_neg (by rw [ev]; decide)
    have e2 : sgOk b n w a = false := by
      unfold sgOk
      rw [if_neg (by rw [ev]; decide), ev]
      rfl
    simp (disch := omega) only [↓reduceIte, ni_l, ni_add, ni_sub, ni_mul, ni_nat, ni_lt, ni_le, ni_inj, ni_m1, nleT, nleF, nltT, nltF, neqT, neqF, am_uA, am_u_o, am_iT, and_true, true_and, not_true_eq_false, not_false_eq_true, and_self, or_true, true_or, or_false, false_or, ni_zT, ni_oT, h2, h3]
    exact bad _ _ e1 e2
  · have ev : hv b n a = b a := if_pos (by omega)
    by_cases c : b a = ni 92
    · have e1 : sgA b n a = a + 1 := if_pos (by rw [ev]; exact c)
      have e2 : sgOk b n w a = isSg (hv b n (a + 1)) := if_pos (by rw [ev]; exact c)
      rw [e1, e2] at k1 k2
      have bad2 : isSg (hv b n (a + 1)) = false → P (.inl (some (.int 0)), (am_SH, am_u (am_u (am_u I 163 4 (ni (a + 1))) 163 5 (ni (a + 1))) 163 6 1, J, Pf), 0, 0) := fun z => k2 z _ (rFF.mark (rFr.rfl'.u (by simp [rSc]))) (by omega)
      by_cases hn2 : n ≤ a + 1
      · have ev2 : hv b n (a + 1) = -1 := if_neg (by omega)
        simp (disch := omega) only [↓reduceIte, ni_l, ni_add, ni_sub, ni_mul, ni_nat, ni_lt, ni_le, ni_inj, ni_m1, nleT, nleF, nltT, nltF, neqT, neqF, am_uA, am_u_o, am_iT, and_true, true_and, not_true_eq_false, not_false_eq_true, and_self, or_true, true_or, or_false, false_or, ni_zT, ni_oT, h1, h2, h3, c]
        exact bad2 (by rw [ev2]; rfl)
      · have ev2 : hv b n (a + 1) = b (a + 1) := if_pos (by omega)
        simp (disch := omega) only [↓reduceIte, ni_l, ni_add, ni_sub, ni_mul, ni_nat, ni_lt, ni_le, ni_inj, ni_m1, nleT, nleF, nltT, nltF, neqT, neqF, am_uA, am_u_o, am_iT, and_true, true_and, not_true_eq_false, not_false_eq_true, and_self, or_true, true_or, or_false, false_or, ni_zT, ni_oT, h1, h2, h3, c]
        rw [ev2] at k1 bad2
        by_cases c1 : b (a + 1) < ni 32
        · rw [if_pos c1]
          exact bad2 (Bool.not_eq_true _ ▸ fun z => ((h32 _).mp z).1 c1)
        · rw [if_neg c1]
          by_cases c2 : ni 127 ≤ b (a + 1)
          · rw [if_pos c2]
            exact bad2 (Bool.not_eq_true _ ▸ fun z => ((h32 _).mp z).2 c2)
          · rw [if_neg c2, am_u_u]
            exact k1 ((h32 _).mpr ⟨c1, c2⟩) (hR.at (by omega))
    · have e1 : sgA b n a = a := if_neg (by rw [ev]; exact c)
      have e2 : sgOk b n w a = (isSg (b a) && !isBr (b a) w) := by
        unfold sgOk
        rw [if_neg (by rw [ev]; exact c), ev]
      simp (disch := omega) only [↓reduceIte, ni_l, ni_add, ni_sub, ni_mul, ni_nat, ni_lt, ni_le, ni_inj, ni_m1, nleT, nleF, nltT, nltF, neqT, neqF, am_uA, am_u_o, am_iT, and_true, true_and, not_true_eq_false, not_false_eq_true, and_self, or_true, true_or, or_false, false_or, ni_zT, ni_oT, h1, h2, h3, c]
      by_cases c1 : b a < ni 32
      · rw [if_pos c1]
        exact bad _ _ e1 (by rw [e2, (Bool.not_eq_true _).mp (fun z => ((h32 _).mp z).1 c1)]; rfl)
      · rw [if_neg c1]
        by_cases c2 : ni 127 ≤ b a
        · rw [if_pos c2]
          exact bad _ _ e1 (by rw [e2, (Bool.not_eq_true _).mp (fun z => ((h32 _).mp z).2 c2)]; rfl)
        · rw [if_neg c2]
          have e3 : isSg (b a) = true := (h32 _).mpr ⟨c1, c2⟩
          rw [e3, Bool.true_and] at e2
          rcases hw with rfl | rfl
          · simp (disch := omega) only [↓reduceIte, ni_l, ni_add, ni_sub, ni_mul, ni_nat, ni_lt, ni_le, ni_inj, ni_m1, nleT, nleF, nltT, nltF, neqT, neqF, am_uA, am_u_o, am_iT, and_true, true_and, not_true_eq_false, not_false_eq_true, and_self, or_true, true_or, or_false, false_or, ni_zT, ni_oT]
            refine v212_73 hp ?_
            have z0 : ni 0 = 0 := rfl
            by_cases d1 : b a = 93
            · rw [if_pos z0, if_pos d1]
              exact bad _ _ e1 (by rw [e2, d1]; rfl)
            · by_cases d2 : b a = 45
              · rw [if_pos z0, if_neg d1, if_pos d2]
                exact bad _ _ e1 (by rw [e2, d2]; rfl)
              · by_cases d3 : b a = 32
                · rw [if_pos z0, if_neg d1, if_neg d2, if_pos d3]
                  exact bad _ _ e1 (by rw [e2, d3]; rfl)
                · rw [if_pos z0, if_neg d1, if_neg d2, if_neg d3, if_pos h5]
                  refine good _ ev.symm e1 ?_ (by omega)
                  rw [e2]
                  unfold isBr
                  rw [if_pos rfl, decide_eq_false (by rintro (z | z | z); exact d1 z; exact d2 z; exact d3 z)]
                  rfl
          · simp (disch := omega) only [↓reduceIte, ni_l, ni_add, ni_sub, ni_mul, ni_nat, ni_lt, ni_le, ni_inj, ni_m1, nleT, nleF, nltT, nltF, neqT, neqF, am_uA, am_u_o, am_iT, and_true, true_and, not_true_eq_false, not_false_eq_true, and_self, or_true, true_or, or_false, false_or, ni_zT, ni_oT]
            by_cases d1 : b a = ni 39
            · rw [if_pos d1]
              exact bad _ _ e1 (by rw [e2, d1]; rfl)
            · rw [if_neg d1]
              refine v212_73 hp ?_
              rw [if_neg (by decide), if_pos h5]
              refine good _ ev.symm e1 ?_ (by omega)
              rw [e2]
              unfold isBr
              rw [if_neg (by decide), show decide (b a = 39) = false from decide_eq_false (fun z => d1 z)]
              rfl
end RR2
