/-! The grammar's text: the model; rows are the reference's -/
def fu (w : Nat → Int32) (k : Nat) (v : Int32) : Nat → Int32 := fun i => if i = k then v else w i
theorem fu_s {w : Nat → Int32} {k : Nat} {v : Int32} : fu w k v k = v := if_pos rfl
theorem fu_n {w : Nat → Int32} {k i : Nat} {v : Int32} (h : i ≠ k) : fu w k v i = w i := if_neg h
theorem am_u_row {I : am_I} {o k : Nat} {v : Int32} : am_u I o k v o = fu (I o) k v := by
  funext i
  unfold am_u fu
  rw [if_pos rfl]
/-- the sets's three numbers -/
def pkN (f : Nat → Bool) : Nat → Nat
  | 0 => 0
  | m + 1 => pkN f m ||| (if f m = true then 2 ^ m else 0)
theorem pkN_bit (f : Nat → Bool) : ∀ m k : Nat, (pkN f m).testBit k = (decide (k < m) && f k)
  | 0, k => by simp [pkN]
  | m + 1, k => by
    unfold pkN
    rw [Nat.testBit_or, pkN_bit f m k]
    by_cases h : f m = true
    · rw [if_pos h, Nat.testBit_two_pow]
      by_cases e : k = m
      · subst e; simp [h]
      · have : decide (m = k) = false := decide_eq_false (fun z => e z.symm)
        rw [this, Bool.or_false]
        congr 1
        exact decide_eq_decide.mpr (by omega)
    · rw [if_neg h, Nat.zero_testBit, Bool.or_false]
      by_cases e : k = m
      · subst e
        rw [Bool.not_eq_true] at h
        simp [h]
      · congr 1
        exact decide_eq_decide.mpr (by omega)
def pkI (f : Nat → Bool) : Int32 := Int32.ofNat (pkN f 32)
theorem pkI_bit {f : Nat → Bool} {k : Nat} (h : k < 32) : bI (pkI f) k = f k := by
  unfold pkI bI
  have e : (Int32.ofNat (pkN f 32)).toBitVec = BitVec.ofNat 32 (pkN f 32) := rfl
  rw [e, BitVec.getLsbD_ofNat, pkN_bit]
  simp [h]
/-- a set's numbers, by what it holds -/
def pk0 (f : Nat → Bool) : Int32 := pkI f
def pk1 (f : Nat → Bool) : Int32 := pkI (fun k => f (k + 32))
def pk2 (f : Nat → Bool) : Int32 := pkI (fun k => decide (k < 31) && f (k + 64))
theorem pq_eq {x y z : Int32} {f : Nat → Bool} (h : ∀ k, k < 95 → r3 x y z k = f k) (h31 : bI z 31 = false) : x = pk0 f ∧ y = pk1 f ∧ z = pk2 f := by
  refine ⟨bI_ext (fun k hk => ?_), bI_ext (fun k hk => ?_), bI_ext (fun k hk => ?_)⟩
  · unfold pk0
    rw [pkI_bit hk, ← h k (by omega)]
    exact (if_pos hk).symm
  · unfold pk1
    rw [pkI_bit hk, ← h (k + 32) (by omega)]
    unfold r3
    rw [if_neg (by omega), if_pos (by omega)]
    rfl
  · unfold pk2
    rw [pkI_bit hk]
    by_cases e : k < 31
    · rw [decide_eq_true e, Bool.true_and, ← h (k + 64) (by omega)]
      unfold r3
      rw [if_neg (by omega), if_neg (by omega)]
      rfl
    · have : k = 31 := by omega
      subst this
      rw [h31]
      rfl
theorem pq_r3 {f : Nat → Bool} {k : Nat} (h : k < 95) : r3 (pk0 f) (pk1 f) (pk2 f) k = f k := by
  unfold r3
  split
  · exact pkI_bit (by omega)
  · split
    · unfold pk1
      rw [pkI_bit (by omega)]
      congr 1
      omega
    · unfold pk2
      rw [pkI_bit (by omega), decide_eq_true (by omega), Bool.true_and]
      congr 1
      omega
theorem pk2_31 {f : Nat → Bool} : bI (pk2 f) 31 = false := by
  unfold pk2
  rw [pkI_bit (by omega)]
  rfl
/-- a word laid into a row, padded -/
def wdW (w : Nat → Int32) (e : Nat) (l : List Int32) : Nat → Int32 := fun i => if e ≤ i ∧ i < e + 8 then l.getD (i - e) 0 else w i
/-- the classes that a row tells -/
def wCls (w : Nat → Int32) : Nat → Nat → Bool := fun c k => r3 (w (8 + 3 * c)) (w (8 + 3 * c + 1)) (w (8 + 3 * c + 2)) k
def wN (w : Nat → Int32) (k : Nat) : Nat := (w k).toNatClampNeg
def eP (p k : Nat) : Nat := 92 + (4 * p + k) * 11
section MOD
variable (b : Nat → Int32) (n : Nat)
def mPart (cc : Nat) (w : Nat → Int32) (e q : Nat) : (Nat × Nat) ⊕ ((Nat → Int32) × Nat) :=
  if hz b n q = 35 then rb (mCl b n cc q) (fun z => .inr (fu (fu w e 0) (e + 1) (ni z.1), z.2))
  else if hz b n q = 64 then rb (mNum b n 8 (q + 1)) (fun z => .inr (fu (fu w e 1) (e + 1) (ni z.1), z.2))
  else rb (mShort b n q) (fun z => .inr (wdW (fu (fu w e 2) (e + 2) (ni z.1.length)) (e + 3) z.1, z.2.2 + 1))
def mParts (cc p : Nat) : Nat → (Nat → Int32) → Nat → Nat → (Nat × Nat) ⊕ ((Nat → Int32) × Nat × Nat)
  | 0, _, _, _ => .inl (0, 0)
  | F + 1, w, k, a => if hz b n (rsk b n a) = 59 then .inr (w, k, rsk b n a) else if hz b n (rsk b n a) = 35 ∨ hz b n (rsk b n a) = 64 ∨ hz b n (rsk b n a) = 39 then (if k = 4 then .inl (3, rsk b n a) else rb (mPart b n cc w (eP p k) (rsk b n a)) (fun z => mParts cc p F z.1 (k + 1) z.2)) else .inl (1, rsk b n a)
def mProd (cc : Nat) (w : Nat → Int32) (p : Nat) (rule : Int32) (a : Nat) : (Nat × Nat) ⊕ ((Nat → Int32) × Nat) :=
  rb (mNum b n 8 a) (fun z => rb (mParts b n cc p 6 (fu (fu w (32 + 3 * p) (ni z.1)) (32 + 3 * p + 1) rule) 0 z.2) (fun y => .inr (fu y.1 (32 + 3 * p + 2) (ni y.2.1), y.2.2)))
def mQuote (w : Nat → Int32) (k a : Nat) : (Nat × Nat) ⊕ ((Nat → Int32) × Nat) :=
  rb (mNum b n 8 a) (fun z => rb (mNum b n 8 z.2) (fun y => rb (mWord b n y.2) (fun x => if x.1.length = 3 then (if x.1.getD 2 0 = x.1.getD 0 0 ∨ x.1.getD 2 0 = x.1.getD 1 0 then .inl (2, x.2.1) else .inr (fu (fu (fu (fu (fu w (972 + 5 * k) (ni z.1)) (972 + 5 * k + 1) (ni y.1)) (972 + 5 * k + 2) (x.1.getD 0 0)) (972 + 5 * k + 3) (x.1.getD 1 0)) (972 + 5 * k + 4) (x.1.getD 2 0), x.2.2 + 1)) else .inl (2, x.2.2))))
def mNot (cc : Nat) (w : Nat → Int32) (k a : Nat) : (Nat × Nat) ⊕ ((Nat → Int32) × Nat) :=
  rb (mNum b n 8 a) (fun z => rb (mCl b n cc z.2) (fun y => .inr (fu (fu w (992 + 2 * k) (ni z.1)) (992 + 2 * k + 1) (ni y.1), y.2)))
def mDrop (w : Nat → Int32) (k pl c a : Nat) : (Nat × Nat) ⊕ ((Nat → Int32) × Nat) :=
  rb (mNum b n 8 a) (fun z => rb (mNum b n 8 z.2) (fun y => if y.1 = z.1 then .inl (2, rsk b n z.2) else .inr (fu (fu (fu (fu w (1008 + 4 * k) (ni z.1)) (1008 + 4 * k + 1) (ni y.1)) (1008 + 4 * k + 2) (ni pl)) (1008 + 4 * k + 3) (ni c), y.2)))
def mSet (cc : Nat) (w : Nat → Int32) (k a : Nat) : (Nat × Nat) ⊕ ((Nat → Int32) × Nat) :=
  rb (mS b n cc (wCls w) (2 * n + 4) 0 false a) (fun z => .inr (fu (fu (fu w (8 + 3 * k) (pk0 z.1)) (8 + 3 * k + 1) (pk1 z.1)) (8 + 3 * k + 2) (pk2 z.1), z.2))
/-- which clause a name tells: 1 class .. 7 lay, 0 none -/
def kdN (q e : Nat) : Nat := if nmB b q e (am_sb 0) = true then 1 else if nmB b q e (am_sb 1) = true then 2 else if nmB b q e (am_sb 2) = true then 3 else if nmB b q e (am_sb 3) = true then 4 else if nmB b q e (am_sb 4) = true then 5 else if nmB b q e (am_sb 5) = true then 6 else if nmB b q e (am_sb 6) = true then 7 else 0
/-- where a kind is counted, and how many there may be -/
def kdC (kd : Nat) : Nat := if kd = 1 then 0 else if kd = 2 then 1 else if kd = 3 then 1 else if kd = 4 then 2 else if kd = 5 then 3 else 4
def kdM (kd : Nat) : Nat := if kd = 1 then 8 else if kd = 2 then 20 else if kd = 3 then 20 else if kd = 4 then 4 else 8
/-- what stands behind the name -/
def mBody (w : Nat → Int32) (kd pl c a : Nat) : (Nat × Nat) ⊕ ((Nat → Int32) × Nat) :=
  if kd = 1 then mSet b n (wN w 0) w (wN w 0) a else if kd = 2 then mProd b n (wN w 0) w (wN w 1) 1 a else if kd = 3 then mProd b n (wN w 0) w (wN w 1) 0 a else if kd = 4 then mQuote b n w (wN w 2) a else if kd = 5 then mNot b n (wN w 0) w (wN w 3) a else if kd = 6 then mDrop b n w (wN w 4) pl c a else rb (mCl b n (wN w 0) a) (fun z => .inr (fu w 5 (ni z.1), z.2))
def kdUp (w : Nat → Int32) (kd : Nat) : Nat → Int32 := if kd = 7 then w else fu w (kdC kd) (ni (wN w (kdC kd) + 1))
/-- a clause and its ; -/
def mClause (w : Nat → Int32) (c a : Nat) : (Nat × Nat) ⊕ ((Nat → Int32) × Nat) :=
  if kdN b (rsk b n a) (mNE b n a) = 0 then .inl (1, rsk b n a)
  else if c = 60 ∨ (kdN b (rsk b n a) (mNE b n a) ≠ 7 ∧ wN w (kdC (kdN b (rsk b n a) (mNE b n a))) = kdM (kdN b (rsk b n a) (mNE b n a))) then .inl (3, rsk b n a)
  else rb (mBody b n w (kdN b (rsk b n a) (mNE b n a)) (rsk b n a) c (mNE b n a)) (fun z => rb (mTake b n 59 z.2) (fun y => .inr (kdUp z.1 (kdN b (rsk b n a) (mNE b n a)), y)))
/-- all clauses: a fault (its kind, place, and clause), or the row -/
def mClauses : Nat → (Nat → Int32) → Nat → Nat → (Nat × Nat × Nat) ⊕ (Nat → Int32)
  | 0, _, _, _ => .inl (0, 0, 0)
  | F + 1, w, c, a => if rsk b n a = n then .inr w else match mClause b n w c a with
    | .inl e => .inl (e.1, e.2, c)
    | .inr z => mClauses F z.1 (c + 1) z.2
end MOD
/-- a row of no clauses -/
def w0 : Nat → Int32 := fu (fun _ => 0) 5 (-1)
