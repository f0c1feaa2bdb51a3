/-! Sets of signs, read: the model; the reference -/
def bI (x : Int32) (k : Nat) : Bool := x.toBitVec.getLsbD k
theorem bI_or (a b : Int32) (k : Nat) : bI (a ||| b) k = (bI a k || bI b k) := by simp [bI]
theorem bI_and (a b : Int32) (k : Nat) : bI (a &&& b) k = (bI a k && bI b k) := by simp [bI]
theorem bI_xor (a b : Int32) (k : Nat) : bI (a ^^^ b) k = (bI a k ^^ bI b k) := by simp [bI]
theorem bI_ge {v : Int32} {k : Nat} (h : 32 ≤ k) : bI v k = false := by
  unfold bI
  exact BitVec.getLsbD_of_ge _ _ h
theorem bI_m1 {k : Nat} (h : k < 32) : bI (-1) k = true := by
  have : (List.range 32).all (fun k => bI (-1) k) = true := by decide +kernel
  exact List.all_eq_true.mp this k (List.mem_range.mpr h)
theorem bI_not {a : Int32} {k : Nat} (h : k < 32) : bI (a ^^^ (-1)) k = !bI a k := by
  rw [bI_xor, bI_m1 h, Bool.xor_true]
theorem bI_hi {k : Nat} : bI 2147483647 k = decide (k < 31) := by
  by_cases h : k < 32
  · have : (List.range 32).all (fun k => bI 2147483647 k == decide (k < 31)) = true := by decide +kernel
    exact eq_of_beq (List.all_eq_true.mp this k (List.mem_range.mpr h))
  · rw [bI_ge (by omega), decide_eq_false (by omega)]
theorem bI_0 {k : Nat} : bI 0 k = false := by simp [bI]
theorem bI_one {j k : Nat} (hj : j < 32) (hk : k < 32) : bI (1 <<< (ni j &&& 31)) k = decide (k = j) := by
  have : (List.range 32).all (fun j => (List.range 32).all (fun k => bI (1 <<< (ni j &&& 31)) k == decide (k = j))) = true := by decide +kernel
  exact eq_of_beq (List.all_eq_true.mp (List.all_eq_true.mp this j (List.mem_range.mpr hj)) k (List.mem_range.mpr hk))
theorem bI_ext {a b : Int32} (h : ∀ k, k < 32 → bI a k = bI b k) : a = b := Int32.toBitVec_inj.mp (BitVec.eq_of_getLsbD_eq (fun i hi => h i hi))
theorem and31 {j : Nat} (hj : j < 32) : ni j &&& 31 = ni j := by
  have : (List.range 32).all (fun j => ni j &&& 31 == ni j) = true := by decide +kernel
  exact eq_of_beq (List.all_eq_true.mp this j (List.mem_range.mpr hj))
/-- one bit, by the shift that keeps the sign -/
theorem bI_sh {v : Int32} {j : Nat} (hj : j < 32) : (((v >>> (ni j &&& 31)) &&& 1) = 1) ↔ bI v j = true := by
  rw [and31 hj]
  have e : ((v >>> ni j) &&& 1 : Int32).toBitVec = (v.toBitVec.sshiftRight j) &&& 1#32 := by
    rw [Int32.toBitVec_and, Int32.toBitVec_shiftRight]
    congr 2
    have : (List.range 32).all (fun j => ((ni j).toBitVec.smod 32).toNat == j) = true := by decide +kernel
    have h2 := eq_of_beq (List.all_eq_true.mp this j (List.mem_range.mpr hj))
    show v.toBitVec.sshiftRight _ = _
    congr 1
  rw [← Int32.toBitVec_inj, e]
  unfold bI
  have e1 : ((1 : Int32)).toBitVec = 1#32 := by decide
  rw [e1]
  have key : (v.toBitVec.sshiftRight j).getLsbD 0 = v.toBitVec.getLsbD j := by
    rw [BitVec.getLsbD_sshiftRight]
    simp [hj]
  have k1 : (1#32 : BitVec 32).getLsbD 0 = true := by decide
  constructor
  · intro h
    have := congrArg (fun z => BitVec.getLsbD z 0) h
    rw [BitVec.getLsbD_and, key, k1, Bool.and_true] at this
    exact this
  · intro h
    apply BitVec.eq_of_getLsbD_eq
    intro i hi
    by_cases h0 : i = 0
    · subst h0
      rw [BitVec.getLsbD_and, key, h, Bool.true_and]
    · simp [h0]
def r3 (x y z : Int32) (k : Nat) : Bool := if k < 32 then bI x k else if k < 64 then bI y (k - 32) else bI z (k - 64)
/-- the reference's set holds f -/
def rSt (I : am_I) (f : Nat → Bool) : Prop := (∀ k, k < 95 → r3 (I 163 17) (I 163 18) (I 163 19) k = f k) ∧ bI (I 163 19) 31 = false
/-- the classes told so far -/
def rCl (I : am_I) (cc : Nat) (cls : Nat → Nat → Bool) : Prop := I 166 0 = ni cc ∧ cc ≤ 8 ∧ ∀ c, c < cc → (∀ k, k < 95 → r3 (I 166 (8 + 3 * c)) (I 166 (8 + 3 * c + 1)) (I 166 (8 + 3 * c + 2)) k = cls c k) ∧ bI (I 166 (8 + 3 * c + 2)) 31 = false
def rSX (I I' : am_I) (b : Nat → Int32) (n : Nat) (z : (Nat → Bool) × Nat) : Prop := RM I' b n z.2 ∧ rSt I' z.1 ∧ ∀ o k, ¬ (o = 163 ∧ (k = 4 ∨ k = 17 ∨ k = 18 ∨ k = 19)) → I' o k = I o k
theorem rSX.fr {I I' : am_I} {b : Nat → Int32} {n : Nat} {z : (Nat → Bool) × Nat} (h : rSX I I' b n z) : rFr I I' := fun o k e => h.2.2 o k (fun z => e (by obtain ⟨rfl, rfl | rfl | rfl | rfl⟩ := z <;> simp [rSc]))
/-- a set with the signs from lo to hi -/
def sRng (f : Nat → Bool) (lo hi : Int32) : Nat → Bool := fun k => f k || decide (lo.toNatClampNeg ≤ k + 32 ∧ k + 32 ≤ hi.toNatClampNeg)
/-- what stands in [ ] -/
def mRng (b : Nat → Int32) (n : Nat) : Nat → Nat → (Nat → Bool) → (Nat × Nat) ⊕ ((Nat → Bool) × Nat)
  | 0, a, _ => .inl (1, a)
  | F + 1, a, f => if hv b n a = 93 then .inr (f, a + 1) else if sgOk b n 0 a = true then (if hv b n (sgA b n a + 1) = 45 then (if sgOk b n 0 (sgA b n a + 2) = true then (if hv b n (sgA b n (sgA b n a + 2)) < hv b n (sgA b n a) then .inl (2, sgA b n a + 2) else mRng b n F (sgA b n (sgA b n a + 2) + 1) (sRng f (hv b n (sgA b n a)) (hv b n (sgA b n (sgA b n a + 2))))) else .inl (1, sgA b n (sgA b n a + 2))) else mRng b n F (sgA b n a + 1) (sRng f (hv b n (sgA b n a)) (hv b n (sgA b n a)))) else .inl (1, sgA b n a)
def sOp (c : Int32) (f g : Nat → Bool) : Nat → Bool := fun k => if c = 124 then f k || g k else if c = 38 then f k && g k else f k && !g k
def mSL (b : Nat → Int32) (n : Nat) (u : Nat → (Nat × Nat) ⊕ ((Nat → Bool) × Nat)) : Nat → (Nat → Bool) → Nat → (Nat × Nat) ⊕ ((Nat → Bool) × Nat)
  | 0, _, _ => .inl (0, 0)
  | G + 1, f, a => if hz b n (rsk b n a) = 124 ∨ hz b n (rsk b n a) = 38 ∨ hz b n (rsk b n a) = 45 then rb (u (rsk b n a + 1)) (fun z => mSL b n u G (sOp (hz b n (rsk b n a)) f z.1) z.2) else .inr (f, rsk b n a)
/-- CE and CT (true) -/
def mS (b : Nat → Int32) (n cc : Nat) (cls : Nat → Nat → Bool) : Nat → Nat → Bool → Nat → (Nat × Nat) ⊕ ((Nat → Bool) × Nat)
  | 0, _, _, _ => .inl (0, 0)
  | F + 1, o, true, a =>
    if hz b n (rsk b n a) = 126 then (if o = 6 then .inl (3, rsk b n a) else rb (mS b n cc cls F (o + 1) true (rsk b n a + 1)) (fun z => .inr (fun k => !z.1 k, z.2)))
    else if hz b n (rsk b n a) = 40 then (if o = 6 then .inl (3, rsk b n a) else rb (mS b n cc cls F (o + 1) false (rsk b n a + 1)) (fun z => rb (mTake b n 41 z.2) (fun e => .inr (z.1, e))))
    else if hz b n (rsk b n a) = 35 then rb (mNum b n cc (rsk b n a + 1)) (fun z => .inr (cls z.1, z.2))
    else if hz b n (rsk b n a) = 91 then mRng b n (n - rsk b n a) (rsk b n a + 1) (fun _ => false)
    else .inl (1, rsk b n a)
  | F + 1, o, false, a => rb (mS b n cc cls F o true a) (fun z => mSL b n (mS b n cc cls F o true) (n - z.2 + 1) z.1 z.2)
theorem r3_0 : r3 0 0 0 = fun _ => false := by
  funext k
  unfold r3
  simp only [bI_0, ite_self]
theorem rsk_rsk {b : Nat → Int32} {n a : Nat} (h : a ≤ n) : rsk b n (rsk b n a) = rsk b n a := by
  have key : ∀ (f a : Nat), n - a = f → a ≤ n → rsk b n (rsk b n a) = rsk b n a := by
    intro f
    induction f with
    | zero =>
      intro a hf ha
      have e1 : rsk b n a = a := by unfold rsk; rw [hf]; rfl
      rw [e1, e1]
    | succ f ih =>
      intro a hf ha
      by_cases c : b a = 32
      · have e1 : rsk b n a = rsk b n (a + 1) := by
          unfold rsk
          rw [hf, show n - (a + 1) = f by omega]
          exact if_pos c
        rw [e1]
        exact ih (a + 1) (by omega) (by omega)
      · have e1 : rsk b n a = a := by
          unfold rsk
          rw [hf]
          exact if_neg c
        rw [e1, e1]
  exact key _ a rfl h
theorem sgOk_sg {b : Nat → Int32} {n : Nat} {w : Int32} {a : Nat} (h : sgOk b n w a = true) : ∃ c : Nat, hv b n (sgA b n a) = ni c ∧ 32 ≤ c ∧ c ≤ 126 := by
  have hs : isSg (hv b n (sgA b n a)) = true := by
    unfold sgOk at h
    unfold sgA
    split at h
    · rename_i c; rw [if_pos c]; exact h
    · rename_i c; rw [if_neg c]; rw [Bool.and_eq_true] at h; exact h.1
  have h1 := of_decide_eq_true hs
  have h0 : (0 : Int32) ≤ hv b n (sgA b n a) := Int32.le_trans (by decide) h1.1
  obtain ⟨c, hc, e⟩ := ni_of' h0
  rw [e] at h1
  exact ⟨c, e, (gle 32 (by omega) hc).mp h1.1, (lle 126 hc (by omega)).mp h1.2⟩
section RR5
variable {d : Nat} {P : am_O → Prop} {J : am_J} {Pf : am_R} {n : Nat} {b : Nat → Int32}
/-- signs added one by one -/
theorem rr_adds (hp : am_PF Pf) {l1 : Option Value} {lo hi : Nat} (hlo : 32 ≤ lo) (hhi : hi ≤ 126) {f : Nat → Bool} : ∀ (m : Nat) (I : am_I) (c : Nat), hi + 1 - c = m → lo ≤ c → c ≤ hi + 1 → I 163 5 = -1 → rSt I (fun k => f k || decide (lo ≤ k + 32 ∧ k + 32 < c)) →
    (∀ (I' : am_I) (x3 : Int32), rSt I' (fun k => f k || decide (lo ≤ k + 32 ∧ k + 32 ≤ hi)) → (∀ o k, ¬ (o = 163 ∧ (k = 17 ∨ k = 18 ∨ k = 19)) → I' o k = I o k) → am_go none (d + 1) 218 (13, [some (.ref 163), l1, some (.int (ni hi)), some (.int x3)], [], (am_SH, I', J, Pf), 0, 0) P) →
    am_go none (d + 1) 218 (94, [some (.ref 163), l1, some (.int (ni hi)), some (.int (ni c))], [], (am_SH, I, J, Pf), 0, 0) P := by
  intro m
  induction m with
  | zero =>
    intro I c hm h1 h2 h5 hS kk
    refine v218_94 hp ?_
    rw [if_pos ((ni_lt (by omega) (by omega)).mpr (by omega))]
    refine kk I _ ⟨fun k hk => ?_, hS.2⟩ (fun _ _ _ => rfl)
    rw [hS.1 k hk]
    dsimp only
    congr 1
    exact decide_eq_decide.mpr (by omega)
  | succ m ih =>
    intro I c hm h1 h2 h5 hS kk
    refine v218_94 hp ?_
    rw [if_neg (fun z => absurd ((ni_lt (by omega) (by omega)).mp z) (by omega)), if_pos h5]
    have ec : ni c - 32 = ni (c - 32) := ni_sub (b := 32) (by omega)
    rw [ec]
    have c32 : ((32 : Int32) ≤ ni (c - 32)) ↔ 32 ≤ c - 32 := gle 32 (by omega) (by omega)
    have c64 : ((64 : Int32) ≤ ni (c - 32)) ↔ 64 ≤ c - 32 := gle 64 (by omega) (by omega)
    have step : ∀ (q : Nat) (x : Int32), (q = 17 ∨ q = 18 ∨ q = 19) → rSt (am_u I 163 q x) (fun k => f k || decide (lo ≤ k + 32 ∧ k + 32 < c + 1)) → am_go none (d + 1) 218 (94, [some (.ref 163), l1, some (.int (ni hi)), some (.int (ni c + 1))], [], (am_SH, am_u I 163 q x, J, Pf), 0, 0) P := by
      intro q x hq hS2
      rw [ni_1, ni_add]
      refine ih _ (c + 1) (by omega) (by omega) (by omega) (u_5 (by omega) h5) hS2 ?_
      intro I' x3 g1 g2
      refine kk I' x3 g1 (fun o k e => ?_)
      rw [g2 o k e, am_u_nq]
      rintro ⟨rfl, rfl⟩
      exact e ⟨rfl, hq⟩
    have mem : ∀ k, (f k || decide (lo ≤ k + 32 ∧ k + 32 < c + 1)) = ((f k || decide (lo ≤ k + 32 ∧ k + 32 < c)) || decide (k = c - 32)) := by
      intro k
      rw [Bool.or_assoc]
      congr 1
      rw [← Bool.decide_or]
      exact decide_eq_decide.mpr (by omega)
    by_cases d1 : 32 ≤ c - 32
    · rw [if_pos (c32.mpr d1)]
      by_cases d2 : 64 ≤ c - 32
      · rw [if_pos (c64.mpr d2)]
        rw [show ni (c - 32) - 64 = ni (c - 32 - 64) from ni_sub (b := 64) d2]
        refine step 19 _ (by omega) ⟨fun k hk => ?_, ?_⟩
        · have hSk := hS.1 k hk
          dsimp only at hSk ⊢
          rw [mem k, ← hSk, am_u_nq (by omega), am_u_nq (by omega), am_u_same]
          unfold r3
          by_cases k1 : k < 32
          · rw [if_pos k1, if_pos k1, decide_eq_false (by omega), Bool.or_false]
          · by_cases k2 : k < 64
            · rw [if_neg k1, if_pos k2, if_neg k1, if_pos k2, decide_eq_false (by omega), Bool.or_false]
            · rw [if_neg k1, if_neg k2, if_neg k1, if_neg k2, bI_or, bI_one (by omega) (by omega)]
              congr 1
              exact decide_eq_decide.mpr (by omega)
        · rw [am_u_same, bI_or, hS.2, bI_one (by omega) (by omega), decide_eq_false (by omega)]
          rfl
      · rw [if_neg (fun z => d2 (c64.mp z))]
        rw [show ni (c - 32) - 32 = ni (c - 32 - 32) from ni_sub (b := 32) d1]
        refine step 18 _ (by omega) ⟨fun k hk => ?_, ?_⟩
        · have hSk := hS.1 k hk
          dsimp only at hSk ⊢
          rw [mem k, ← hSk, am_u_nq (by omega), am_u_same, am_u_nq (by omega)]
          unfold r3
          by_cases k1 : k < 32
          · rw [if_pos k1, if_pos k1, decide_eq_false (by omega), Bool.or_false]
          · by_cases k2 : k < 64
            · rw [if_neg k1, if_pos k2, if_neg k1, if_pos k2, bI_or, bI_one (by omega) (by omega)]
              congr 1
              exact decide_eq_decide.mpr (by omega)
            · rw [if_neg k1, if_neg k2, if_neg k1, if_neg k2, decide_eq_false (by omega), Bool.or_false]
        · rw [am_u_nq (by omega)]; exact hS.2
    · rw [if_neg (fun z => d1 (c32.mp z))]
      refine step 17 _ (by omega) ⟨fun k hk => ?_, ?_⟩
      · have hSk := hS.1 k hk
        dsimp only at hSk ⊢
        rw [mem k, ← hSk, am_u_same, am_u_nq (by omega), am_u_nq (by omega)]
        unfold r3
        by_cases k1 : k < 32
        · rw [if_pos k1, if_pos k1, bI_or, bI_one (by omega) (by omega)]
        · by_cases k2 : k < 64
          · rw [if_neg k1, if_neg k1, if_pos k2, decide_eq_false (by omega), Bool.or_false]
          · rw [if_neg k1, if_neg k1, if_neg k2, decide_eq_false (by omega), Bool.or_false]
      · rw [am_u_nq (by omega)]; exact hS.2
/-- the loop in [ ] -/
theorem rr_rng (hp : am_PF Pf) : ∀ (F : Nat) (I : am_I) (a : Nat) (f : Nat → Bool) (l1 l2 l3 : Option Value), n + 1 - a ≤ F → RM I b n a → I 163 5 = -1 → rSt I f →
    rm2 (mRng b n F a f) (fun z => ∀ I', rSX I I' b n z → P (.inl none, (am_SH, I', J, Pf), 0, 0)) (fun kd pl => ∀ I', rFF I I' kd pl → pl ≤ 600 → P (.inl none, (am_SH, I', J, Pf), 0, 0)) →
    am_go none (d + 3) 218 (13, [some (.ref 163), l1, l2, l3], [], (am_SH, I, J, Pf), 0, 0) P := by
  -- a fault ends it
  have fl3 : ∀ (I I1 : am_I) (kd pl : Nat) (l1 l2 l3 : Option Value), rFF I I1 kd pl → pl ≤ 600 → (∀ I', rFF I I' kd pl → pl ≤ 600 → P (.inl none, (am_SH, I', J, Pf), 0, 0)) → am_go none (d + 3) 218 (13, [some (.ref 163), l1, l2, l3], [], (am_SH, I1, J, Pf), 0, 0) P := by
    intro I I1 kd pl l1 l2 l3 hF hpl kk
    refine v218_13 hp ?_
    rw [if_neg (hF.bad (by omega))]
    refine v218_120 hp ?_
    rw [if_neg (hF.bad (by omega))]
    exact kk _ hF hpl
  have fl2 : ∀ (I I1 : am_I) (kd pl : Nat) (l3 : Option Value) (x1 x2 : Int32), rFF I I1 kd pl → pl ≤ 600 → (∀ I', rFF I I' kd pl → pl ≤ 600 → P (.inl none, (am_SH, I', J, Pf), 0, 0)) → am_go none (d + 3) 218 (92, [some (.ref 163), some (.int x1), some (.int x2), l3], [], (am_SH, I1, J, Pf), 0, 0) P := by
    intro I I1 kd pl l3 x1 x2 hF hpl kk
    refine v218_92 hp (v218_94 hp ?_)
    by_cases c : x2 < x1
    · rw [if_pos c]; exact fl3 I I1 kd pl _ _ _ hF hpl kk
    · rw [if_neg c, if_neg (hF.bad (by omega))]; exact fl3 I I1 kd pl _ _ _ hF hpl kk
  intro F
  induction F with
  | zero =>
    intro I a f l1 l2 l3 hF h
    have := h.2.2.2.1
    omega
  | succ F ih =>
    intro I a f l1 l2 l3 hF h h5 hS kk
    have hR := h
    obtain ⟨h1, h2, h3, h4, h6⟩ := h
    unfold mRng at kk
    refine v218_13 hp ?_
    rw [if_pos h5, h2, h3]
    have nxt : ∀ (I1 : am_I) (a1 lo hi : Nat) (l3 : Option Value), a < a1 → a1 ≤ n → RM I1 b n a1 → I1 163 5 = -1 → (∀ o k, ¬ (o = 163 ∧ k = 4) → I1 o k = I o k) → 32 ≤ lo → lo ≤ hi → hi ≤ 126 →
        rm2 (mRng b n F a1 (sRng f (ni lo) (ni hi))) (fun z => ∀ I', rSX I I' b n z → P (.inl none, (am_SH, I', J, Pf), 0, 0)) (fun kd pl => ∀ I', rFF I I' kd pl → pl ≤ 600 → P (.inl none, (am_SH, I', J, Pf), 0, 0)) →
        am_go none (d + 3) 218 (92, [some (.ref 163), some (.int (ni lo)), some (.int (ni hi)), l3], [], (am_SH, I1, J, Pf), 0, 0) P := by
      intro I1 a1 lo hi l3 g1 g2 g3 g4 g5 g6 g7 g8 kk
      have hS1 : rSt I1 f := by
        refine ⟨fun k hk => ?_, ?_⟩
        · rw [g5 _ _ (by omega), g5 _ _ (by omega), g5 _ _ (by omega)]; exact hS.1 k hk
        · rw [g5 _ _ (by omega)]; exact hS.2
      refine v218_92 hp (rr_adds (d := d + 2) hp g6 g8 (f := f) _ _ lo rfl (Nat.le_refl _) (by omega) g4 ⟨fun k hk => ?_, hS1.2⟩ ?_)
      · rw [hS1.1 k hk]
        dsimp only
        rw [decide_eq_false (by omega), Bool.or_false]
      · intro I' x3 e1 e2
        have hR' : RM I' b n a1 := by
          obtain ⟨m1, m2, m3, m4, m6⟩ := g3
          refine ⟨?_, ?_, ?_, m4, m6⟩
          · rw [← m1]; funext k; exact e2 _ _ (by omega)
          · rw [← m2]; exact e2 _ _ (by omega)
          · rw [← m3]; exact e2 _ _ (by omega)
        have hf : ∀ o k, ¬ (o = 163 ∧ (k = 4 ∨ k = 17 ∨ k = 18 ∨ k = 19)) → I' o k = I o k := by
          intro o k e
          rw [e2 o k (by omega), g5 o k (by omega)]
        have hfr : rFr I I' := fun o k e => hf o k (fun z => e (by obtain ⟨rfl, rfl | rfl | rfl | rfl⟩ := z <;> simp [rSc]))
        have e' : (fun k => f k || decide (lo ≤ k + 32 ∧ k + 32 ≤ hi)) = sRng f (ni lo) (ni hi) := by
          funext k
          unfold sRng
          rw [ni_nat (by omega), ni_nat (by omega)]
        refine ih I' a1 _ _ _ _ (by omega) hR' (by rw [hf _ _ (by omega)]; exact h5) (e' ▸ e1) ?_
        revert kk
        cases mRng b n F a1 (sRng f (ni lo) (ni hi)) with
        | inl e => exact fun kk I'' hF hpl => kk I'' (rFF.after hfr hF) hpl
        | inr z => exact fun kk I'' hX => kk I'' ⟨hX.1, hX.2.1, fun o k e => (hX.2.2 o k e).trans (hf o k e)⟩
    have u4 : ∀ (v : Int32) (o k : Nat), ¬ (o = 163 ∧ k = 4) → am_u I 163 4 v o k = I o k := fun v o k e => am_u_nq (by omega)
    -- a sign is read
    have rd : ¬ hv b n a = 93 → am_mth (d + 3) 212 [.ref 163, .int 0] (am_SH, I, J, Pf) (am_af none (d + 3) 218 31 [some (.ref 163), l1, l2, l3] [.int 0, .ref 163] [] (am_SH, I, J, Pf) 0 0 true P) := by
      intro h93
      rw [if_neg h93] at kk
      refine sr_sign hp (Or.inl rfl) hR h5 (fun hs hR1 => am_back ?_) (fun hs I' hF' hpl => am_back ?_)
      · rw [if_pos hs] at kk
        obtain ⟨lo, elo, lo1, lo2⟩ := sgOk_sg hs
        have hA := sgOk_lt hs
        have hA2 := sgA_le (b := b) h4
        have m5 : am_u I 163 4 (ni (sgA b n a + 1)) 163 5 = -1 := u_5 (by omega) h5
        refine v218_34 hp ?_
        rw [if_pos m5, elo]
        have one : ¬ hv b n (sgA b n a + 1) = 45 → am_go none (d + 3) 218 (92, [some (.ref 163), some (.int (ni lo)), some (.int (ni lo)), l3], [], (am_SH, am_u I 163 4 (ni (sgA b n a + 1)), J, Pf), 0, 0) P := by
          intro hn
          rw [if_neg hn, elo] at kk
          exact nxt _ (sgA b n a + 1) lo lo l3 (by omega) (by omega) hR1 m5 (u4 _) lo1 (Nat.le_refl _) lo2 kk
        obtain ⟨m1, m2, m3, m4, m6⟩ := hR1
        rw [m2, m3]
        by_cases hn : n ≤ sgA b n a + 1
        · rw [if_pos ((ni_le (by omega) (by omega)).mpr hn)]
          exact one (by rw [show hv b n (sgA b n a + 1) = -1 from if_neg (by omega)]; decide)
        · rw [if_neg (fun z => hn ((ni_le (by omega) (by omega)).mp z)), m1, ni_nat (by omega)]
          refine ⟨ni_in (by omega) (by omega), ?_⟩
          have ev : hv b n (sgA b n a + 1) = b (sgA b n a + 1) := if_pos (by omega)
          by_cases c45 : b (sgA b n a + 1) = 45
          · rw [if_pos (ev.trans c45)] at kk
            rw [if_pos c45, ni_1, ni_add, am_u_u]
            have hR2 := hR.at (a' := sgA b n a + 1 + 1) (by omega)
            have n5 : am_u I 163 4 (ni (sgA b n a + 1 + 1)) 163 5 = -1 := u_5 (by omega) h5
            refine sr_sign hp (Or.inl rfl) hR2 n5 (fun hs2 hR3 => am_back ?_) (fun hs2 I' hF' hpl => am_back ?_)
            · rw [if_pos hs2, elo] at kk
              obtain ⟨hi, ehi, hi1, hi2⟩ := sgOk_sg hs2
              have hB := sgOk_lt hs2
              have hB2 := sgA_le (b := b) hR2.2.2.2.1
              rw [ehi] at kk ⊢
              rw [am_u_u] at hR3 ⊢
              have p5 : am_u I 163 4 (ni (sgA b n (sgA b n a + 1 + 1) + 1)) 163 5 = -1 := u_5 (by omega) h5
              refine v218_73 hp ?_
              rw [if_pos p5]
              by_cases clt : hi < lo
              · rw [if_pos ((ni_lt (by omega) (by omega)).mpr clt)] at kk
                rw [if_neg (fun z => absurd ((ni_le (by omega) (by omega)).mp z) (by omega))]
                refine fl2 I _ 2 (sgA b n a + 1 + 1) _ _ _ (rFF.mark ?_) (by omega) kk
                exact rFr.rfl'.u (by simp [rSc])
              · rw [if_neg (fun z => clt ((ni_lt (by omega) (by omega)).mp z))] at kk
                rw [if_pos ((ni_le (by omega) (by omega)).mpr (by omega))]
                exact nxt _ (sgA b n (sgA b n a + 1 + 1) + 1) lo hi _ (by omega) (by omega) hR3 p5 (u4 _) lo1 (by omega) hi2 kk
            · rw [if_neg (by rw [hs2]; decide)] at kk
              refine v218_73 hp ?_
              rw [if_neg (hF'.bad (by omega))]
              exact fl2 I I' _ _ _ _ _ (rFF.after (rFr.rfl'.u (by simp [rSc])) hF') hpl kk
          · rw [if_neg c45]
            exact one (by rw [ev]; exact c45)
      · rw [if_neg (by rw [hs]; decide)] at kk
        refine v218_34 hp ?_
        rw [if_neg (hF'.bad (by omega))]
        exact fl2 I I' _ _ _ _ _ hF' hpl kk
    by_cases hn : n ≤ a
    · rw [if_pos ((ni_le (by omega) (by omega)).mpr hn)]
      exact rd (by rw [show hv b n a = -1 from if_neg (by omega)]; decide)
    · rw [if_neg (fun z => hn ((ni_le (by omega) (by omega)).mp z)), h1, ni_nat (by omega)]
      refine ⟨ni_in (by omega) (by omega), ?_⟩
      have ev : hv b n a = b a := if_pos (by omega)
      by_cases c93 : b a = 93
      · rw [if_pos (ev.trans c93)] at kk
        rw [if_pos c93]
        refine v218_120 hp ?_
        rw [if_pos h5, h3, ni_1, ni_add]
        refine kk _ ⟨hR.at (by omega), ⟨fun k hk => ?_, ?_⟩, fun o k e => u4 _ o k (by omega)⟩
        · rw [u4 _ _ _ (by omega), u4 _ _ _ (by omega), u4 _ _ _ (by omega)]; exact hS.1 k hk
        · rw [u4 _ _ _ (by omega)]; exact hS.2
      · rw [if_neg c93]
        exact rd (by rw [ev]; exact c93)
variable {I : am_I} {a : Nat}
theorem sr_rng (hp : am_PF Pf) (h : RM I b n a) (h5 : I 163 5 = -1) (h91 : hz b n a = 91)
    (kk : rm2 (mRng b n (n - a) (a + 1) (fun _ => false)) (fun z => ∀ I', rSX I I' b n z → P (.inl none, (am_SH, I', J, Pf), 0, 0)) (fun kd pl => ∀ I', rFF I I' kd pl → pl ≤ 600 → P (.inl none, (am_SH, I', J, Pf), 0, 0))) :
    am_mth (d + 4) 218 [.ref 163] (am_SH, I, J, Pf) P := by
  have hlt := hz_0 h91 (by decide)
  have e1 : rsk b n a = a := by
    have h9 : b a = 91 := by rw [← h91]; exact (if_pos hlt).symm
    unfold rsk
    obtain ⟨f, hf⟩ : ∃ f, n - a = f + 1 := ⟨n - a - 1, by omega⟩
    rw [hf]
    exact if_neg (by rw [h9]; decide)
  have em : mTake b n 91 a = .inr (a + 1) := by
    unfold mTake
    rw [e1, if_pos h91]
  refine am_mth_of rfl rfl (v218_0 hp (sr_need (d := d) hp (by decide) h h5 ?_))
  rw [em]
  intro hR
  refine am_back (v218_6 hp ?_)
  have hfr : ∀ o k, ¬ (o = 163 ∧ (k = 4 ∨ k = 17 ∨ k = 18 ∨ k = 19)) → am_u (am_u (am_u (am_u I 163 4 (ni (a + 1))) 163 17 0) 163 18 0) 163 19 0 o k = I o k := by
    intro o k e
    rw [am_u_nq (by omega), am_u_nq (by omega), am_u_nq (by omega), am_u_nq (by omega)]
  refine rr_rng (d := d) (n := n) (b := b) hp (n - a) _ (a + 1) (fun _ => false) _ _ _ (by omega) ?_ ?_ ?_ ?_
  · obtain ⟨m1, m2, m3, m4, m6⟩ := hR
    refine ⟨?_, ?_, ?_, m4, m6⟩
    · rw [am_u_o (by omega), am_u_o (by omega), am_u_o (by omega)]; exact m1
    · rw [am_u_nq (by omega), am_u_nq (by omega), am_u_nq (by omega)]; exact m2
    · rw [am_u_nq (by omega), am_u_nq (by omega), am_u_nq (by omega)]; exact m3
  · rw [hfr _ _ (by omega)]; exact h5
  · refine ⟨fun k hk => ?_, ?_⟩
    · rw [am_u_nq (by omega), am_u_nq (by omega), am_u_same, am_u_nq (by omega), am_u_same, am_u_same, r3_0]
    · rw [am_u_same, bI_0]
  · revert kk
    cases mRng b n (n - a) (a + 1) (fun _ => false) with
    | inl e => exact fun kk I' hF hpl => kk I' (rFF.after (fun o k e => hfr o k (fun z => e (by obtain ⟨rfl, rfl | rfl | rfl | rfl⟩ := z <;> simp [rSc]))) hF) hpl
    | inr z => exact fun kk I' hX => kk I' ⟨hX.1, hX.2.1, fun o k e => (hX.2.2 o k e).trans (hfr o k e)⟩
theorem sr_class_nf (hp : am_PF Pf) (h5 : ¬ I 163 5 = -1) (kk : P (.inl (some (.int 0)), (am_SH, I, J, Pf), 0, 0)) : am_mth (d + 4) 217 [.ref 163] (am_SH, I, J, Pf) P :=
  am_mth_of rfl rfl (v217_0 hp (sr_need_nf (d := d) hp h5 (am_back (v217_6 hp (sr_num_nf (d := d) hp h5 (am_back (v217_19 hp kk)))))))
/-- # and the number of a class -/
def mCl (b : Nat → Int32) (n cc a : Nat) : (Nat × Nat) ⊕ (Nat × Nat) := rb (mTake b n 35 a) (fun p => mNum b n cc p)
theorem sr_class (hp : am_PF Pf) {cc : Nat} (hc : cc ≤ 8) (h : RM I b n a) (h5 : I 163 5 = -1) (hcc : I 166 0 = ni cc)
    (kk : rm2 (mCl b n cc a) (fun z => RM (am_u I 163 4 (ni z.2)) b n z.2 → z.1 < cc → P (.inl (some (.int (ni z.1))), (am_SH, am_u I 163 4 (ni z.2), J, Pf), 0, 0)) (fun kd pl => ∀ I', rFF I I' kd pl → pl ≤ 600 → P (.inl (some (.int 0)), (am_SH, I', J, Pf), 0, 0))) :
    am_mth (d + 4) 217 [.ref 163] (am_SH, I, J, Pf) P := by
  refine am_mth_of rfl rfl (v217_0 hp (sr_need (d := d) hp (by decide) h h5 ?_))
  unfold mCl at kk
  cases hm : mTake b n 35 a with
  | inl e =>
    rw [hm] at kk
    intro I' hF hpl
    exact am_back (v217_6 hp (sr_num_nf (d := d) hp (hF.bad (by omega)) (am_back (v217_19 hp (kk I' hF hpl)))))
  | inr q =>
    rw [hm] at kk
    dsimp only [rb] at kk
    intro hR
    refine am_back (v217_6 hp ?_)
    rw [am_u_nq (by omega), hcc]
    refine sr_num (d := d) hp (by omega) hR (u_5 (by omega) h5) ?_
    revert kk
    cases mNum b n cc q with
    | inl e => exact fun kk I' hF hpl => am_back (v217_19 hp (kk I' (rFF.after (rFr.rfl'.u (by simp [rSc])) hF) hpl))
    | inr z =>
      intro kk hR2 hlt
      rw [am_u_u] at hR2 ⊢
      exact am_back (v217_19 hp (kk hR2 hlt))
end RR5
