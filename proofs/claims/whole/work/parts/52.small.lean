/-! Small ones: the class's statics, Math, Arrays; more of the reader -/
def b2 (b : Bool) : Int32 := match b with
  | true => 1
  | false => 0
theorem b2_01 (b : Bool) : b2 b = 0 ∨ b2 b = 1 := by cases b <;> simp [b2]
theorem b2_0 {b : Bool} : b2 b = 0 ↔ b = false := by cases b <;> decide
theorem b2_1 {b : Bool} : b2 b = 1 ↔ b = true := by cases b <;> decide
def isSg (x : Int32) : Bool := decide (32 ≤ x ∧ x ≤ 126)
def isDg (x : Int32) : Bool := decide (48 ≤ x ∧ x ≤ 57)
def isLt (x : Int32) : Bool := decide (97 ≤ x ∧ x ≤ 122)
theorem i_nlt {a b : Int32} : ¬ (a < b) ↔ b ≤ a := Int32.not_lt
theorem i_nle {a b : Int32} : ¬ (a ≤ b) ↔ b < a := Int32.not_le
section SPS
variable {d : Nat} {P : am_O → Prop} {I : am_I} {J : am_J} {Pf : am_R} {x z : Int32}
theorem sp_isSign (hp : am_PF Pf) (kk : P (.inl (some (.int (b2 (isSg x)))), (am_SH, I, J, Pf), 0, 0)) : am_mth (d + 1) 185 [.int x] (am_SH, I, J, Pf) P := by
  refine am_mth_of rfl rfl (t185_0 hp (fun c => ?_) (fun c1 c2 => ?_) (fun c1 c2 => ?_))
  · rw [show isSg x = false from decide_eq_false (fun h => absurd h.1 (i_nle.mpr c))] at kk; exact kk
  · rw [show isSg x = false from decide_eq_false (fun h => absurd h.2 (i_nle.mpr c2))] at kk; exact kk
  · rw [show isSg x = true from decide_eq_true ⟨i_nlt.mp c1, i_nlt.mp c2⟩] at kk; exact kk
theorem sp_isDigit (hp : am_PF Pf) (kk : P (.inl (some (.int (b2 (isDg x)))), (am_SH, I, J, Pf), 0, 0)) : am_mth (d + 1) 186 [.int x] (am_SH, I, J, Pf) P := by
  refine am_mth_of rfl rfl (t186_0 hp (fun c => ?_) (fun c1 c2 => ?_) (fun c1 c2 => ?_))
  · rw [show isDg x = false from decide_eq_false (fun h => absurd h.1 (i_nle.mpr c))] at kk; exact kk
  · rw [show isDg x = false from decide_eq_false (fun h => absurd h.2 (i_nle.mpr c2))] at kk; exact kk
  · rw [show isDg x = true from decide_eq_true ⟨i_nlt.mp c1, i_nlt.mp c2⟩] at kk; exact kk
theorem sp_isLetter (hp : am_PF Pf) (kk : P (.inl (some (.int (b2 (isLt x)))), (am_SH, I, J, Pf), 0, 0)) : am_mth (d + 1) 187 [.int x] (am_SH, I, J, Pf) P := by
  refine am_mth_of rfl rfl (t187_0 hp (fun c => ?_) (fun c1 c2 => ?_) (fun c1 c2 => ?_))
  · rw [show isLt x = false from decide_eq_false (fun h => absurd h.1 (i_nle.mpr c))] at kk; exact kk
  · rw [show isLt x = false from decide_eq_false (fun h => absurd h.2 (i_nle.mpr c2))] at kk; exact kk
  · rw [show isLt x = true from decide_eq_true ⟨i_nlt.mp c1, i_nlt.mp c2⟩] at kk; exact kk
theorem sp_max (hp : am_PF Pf) (kk : P (.inl (some (.int (if x < z then z else x))), (am_SH, I, J, Pf), 0, 0)) : am_mth (d + 1) 329 [.int x, .int z] (am_SH, I, J, Pf) P := by
  refine am_mth_of rfl rfl (t329_0 hp (fun c => ?_) (fun c => ?_))
  · rw [if_pos c] at kk; exact kk
  · rw [if_neg c] at kk; exact kk
theorem sp_min (hp : am_PF Pf) (kk : P (.inl (some (.int (if z < x then z else x))), (am_SH, I, J, Pf), 0, 0)) : am_mth (d + 1) 330 [.int x, .int z] (am_SH, I, J, Pf) P := by
  refine am_mth_of rfl rfl (t330_0 hp (fun c => ?_) (fun c => ?_))
  · rw [if_pos c] at kk; exact kk
  · rw [if_neg c] at kk; exact kk
/-- a row filled up to a place -/
def am_fill (I : am_I) (o : Nat) (lo hi : Nat) (x : Int32) : am_I := fun o' i => if o' = o ∧ lo ≤ i ∧ i < hi then x else I o' i
theorem am_fill_0 {I : am_I} {o lo : Nat} {x : Int32} : am_fill I o lo lo x = I := by
  funext a i
  unfold am_fill
  rw [if_neg (by omega)]
theorem am_fill_s {I : am_I} {o lo hi : Nat} {x : Int32} (h : lo < hi) : am_fill (am_u I o lo x) o (lo + 1) hi x = am_fill I o lo hi x := by
  funext a i
  unfold am_fill am_u
  by_cases h1 : a = o
  · subst h1
    by_cases h2 : i = lo
    · subst h2
      simp [h]
    · simp only [true_and, if_true, if_neg h2]
      have e : (lo + 1 ≤ i ∧ i < hi) ↔ (lo ≤ i ∧ i < hi) := by omega
      simp only [e]
  · simp [h1]
theorem jd_fill (hp : am_PF Pf) {sc : Option (Nat × (Nat → Int32))} {k n o L : Nat} (ho : am_SH[o]? = some (.inr (0, L))) (hL : L < 2147483648) : ∀ (f lo : Nat) (I : am_I), L - lo = f → lo ≤ L → P (.inl none, (am_SH, am_fill I o lo L x, J, Pf), k, n) → am_go sc d 341 (5, [some (.ref o), some (.int x), some (.int (ni lo)), some (.int (ni L))], [], (am_SH, I, J, Pf), k, n) P := by
  intro f
  induction f with
  | zero =>
    intro lo I hf hlo kk
    have e : lo = L := by omega
    subst e
    rw [am_fill_0] at kk
    refine t341_5 hp ho (fun c => kk) (fun c => ?_) (fun c => ?_) <;> exact absurd ((ni_le hL hL).mpr (Nat.le_refl _)) c
  | succ f ih =>
    intro lo I hf hlo kk
    have c0 : ¬ (ni L ≤ ni lo) := by rw [ni_le hL (by omega)]; omega
    refine t341_5 hp ho (fun c => absurd c c0) (fun c => ni_in (by omega) (by omega)) (fun c => ?_)
    rw [ni_nat (by omega), ni_1, ni_add]
    refine ih (lo + 1) _ (by omega) (by omega) ?_
    rw [am_fill_s (by omega)]
    exact kk
theorem sp_fill (hp : am_PF Pf) {o L : Nat} (ho : am_SH[o]? = some (.inr (0, L))) (hL : L < 2147483648) (kk : P (.inl none, (am_SH, am_fill I o 0 L x, J, Pf), 0, 0)) : am_mth (d + 1) 341 [.ref o, .int x] (am_SH, I, J, Pf) P :=
  am_mth_of rfl rfl (t341_0 hp ho (jd_fill hp ho hL _ 0 I rfl (Nat.zero_le _) kk))
end SPS
section SPR2
variable {d : Nat} {P : am_O → Prop} {I : am_I} {J : am_J} {Pf : am_R} {n a : Nat}
theorem RD.at {I : am_I} {n a a' : Nat} (h : RD I n a) (h' : a' ≤ n) : RD (am_u I 1 3 (ni a')) n a' := by
  obtain ⟨h1, h2, h3, h4⟩ := h
  exact ⟨by rw [am_u_nq (by omega)]; exact h1, am_u_same, h', h4⟩
theorem RD.oth {I : am_I} {n a f : Nat} {v : Int32} (h : RD I n a) (h1 : f ≠ 2) (h2 : f ≠ 3) : RD (am_u I 1 f v) n a := by
  obtain ⟨g1, g2, g3, g4⟩ := h
  exact ⟨by rw [am_u_nq (by omega)]; exact g1, by rw [am_u_nq (by omega)]; exact g2, g3, g4⟩
theorem RD.fail {I : am_I} {n a : Nat} {kind place : Int32} (h : RD I n a) : RD (rfail I kind place) n a := by
  unfold rfail
  split
  · exact (h.oth (by omega) (by omega)).oth (by omega) (by omega)
  · exact h
theorem sp_rd_takeEnd (hp : am_PF Pf) (h : RD I n a)
    (k1 : hv (I 2) n (rsk (I 2) n a) = -1 → P (.inl (some (.int 1)), (am_SH, am_u I 1 3 (ni (rsk (I 2) n a)), J, Pf), 0, 0))
    (k2 : hv (I 2) n (rsk (I 2) n a) ≠ -1 → P (.inl (some (.int 0)), (am_SH, rfail (am_u I 1 3 (ni (rsk (I 2) n a))) 1 (ni (rsk (I 2) n a)), J, Pf), 0, 0)) : am_mth (d + 2) 57 [.ref 1] (am_SH, I, J, Pf) P := by
  refine am_mth_of rfl rfl (t57_0 hp (sp_rd_hbb hp h (am_back (t57_4 hp (fun c => k1 c) (fun c => ?_)))))
  refine sp_rd_fail hp (am_back ?_)
  rw [am_u_same]
  exact t57_17 hp (fun _ => k2 c) (fun c => absurd rfl c)
theorem sp_rd_start (hp : am_PF Pf) {x : Int32} (kk : P (.inl none, (am_SH, am_u (am_u (am_u (am_u (am_u (am_u I 1 2 x) 1 1 0) 1 3 0) 1 4 0) 1 5 0) 1 6 (-1), J, Pf), 0, 0)) : am_mth (d + 1) 52 [.ref 1, .int x] (am_SH, I, J, Pf) P := am_mth_of rfl rfl (t52_0 hp kk)
theorem sp_rd_shut (hp : am_PF Pf) (kk : P (.inl none, (am_SH, am_u I 1 4 (I 1 4 - 1), J, Pf), 0, 0)) : am_mth (d + 1) 62 [.ref 1] (am_SH, I, J, Pf) P := am_mth_of rfl rfl (t62_0 hp kk)
theorem sp_rd_open (hp : am_PF Pf) {x : Int32} (k1 : I 1 4 + 1 ≤ 6 → P (.inl (some (.int 1)), (am_SH, am_u I 1 4 (I 1 4 + 1), J, Pf), 0, 0)) (k2 : ¬ (I 1 4 + 1 ≤ 6) → P (.inl (some (.int 0)), (am_SH, rfail (am_u I 1 4 (I 1 4 + 1)) 3 x, J, Pf), 0, 0)) : am_mth (d + 2) 61 [.ref 1, .int x] (am_SH, I, J, Pf) P := by
  refine am_mth_of rfl rfl (t61_0 hp (fun c => k1 c) (fun c => sp_rd_fail hp (am_back ?_)))
  exact t61_25 hp (fun _ => k2 c) (fun c => absurd rfl c)
/-- signs that end a word, or a range -/
def isBr (x inWord : Int32) : Bool := if inWord = 0 then decide (x = 93 ∨ x = 45 ∨ x = 32) else decide (x = 39)
theorem sp_rd_isBarred (hp : am_PF Pf) {x z : Int32} (kk : P (.inl (some (.int (b2 (isBr x z)))), (am_SH, I, J, Pf), 0, 0)) : am_mth (d + 1) 64 [.int x, .int z] (am_SH, I, J, Pf) P := by
  have e : ∀ b, isBr x z = b → P (.inl (some (.int (b2 b))), (am_SH, I, J, Pf), 0, 0) := fun b h => by rw [h] at kk; exact kk
  refine am_mth_of rfl rfl (t64_0 hp (fun c1 c2 => e true ?_) (fun c1 c2 c3 => e true ?_) (fun c1 c2 c3 c4 => e false ?_) (fun c1 c2 c3 c4 => e true ?_) (fun c1 c2 => e false ?_) (fun c1 c2 => e true ?_))
  all_goals unfold isBr
  · rw [if_pos c1]; simp [c2]
  · rw [if_pos c1]; simp [c3]
  · rw [if_pos c1]; simp [c2, c3, c4]
  · rw [if_pos c1]; simp [Decidable.not_not.mp c4]
  · rw [if_neg c1]; simp [c2]
  · rw [if_neg c1]; simp [Decidable.not_not.mp c2]
end SPR2
