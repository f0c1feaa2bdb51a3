/-! Sets of signs, told by what they hold -/
/-- a set has become f, nothing else has changed -/
def sgS (J J' : am_J) (s : Nat) (f : Nat → Bool) : Prop := (∀ o, o ≠ s → J' o = J o) ∧ (∀ k, k < 95 → sgD J' s k = f k) ∧ sgT J' s
theorem sgS_put {J : am_J} {s : Nat} {a b : Int64} {f : Nat → Bool} (h0 : ∀ k, k < 64 → bJ a k = f k) (h1 : ∀ k, k < 31 → bJ b k = f (k + 64)) (h2 : ∀ k, 31 ≤ k → bJ b k = false) : sgS J (am_u (am_u J s 0 a) s 1 b) s f := by
  have e0 : am_u (am_u J s 0 a) s 1 b s 0 = a := by rw [am_u_nq (by omega), am_u_same]
  have e1 : am_u (am_u J s 0 a) s 1 b s 1 = b := am_u_same
  refine ⟨fun o ho => by rw [am_u_o ho, am_u_o ho], fun k hk => ?_, fun k hk => by rw [e1]; exact h2 k hk⟩
  unfold sgD
  rw [e0, e1]
  split
  · exact h0 k (by omega)
  · rw [h1 (k - 64) (by omega)]
    congr 1
    omega
theorem sgD_0 {J : am_J} {s k : Nat} (h : k < 64) : sgD J s k = bJ (J s 0) k := if_pos h
theorem sgD_1 {J : am_J} {s k : Nat} : sgD J s (k + 64) = bJ (J s 1) k := by
  unfold sgD
  rw [if_neg (by omega)]
  congr 1
theorem sgD_o {J J' : am_J} {s : Nat} (h : J' s = J s) (k : Nat) : sgD J' s k = sgD J s k := by
  unfold sgD
  rw [h]
theorem sgT_o {J J' : am_J} {s : Nat} (h : J' s = J s) (hT : sgT J s) : sgT J' s := by
  unfold sgT
  rw [h]
  exact hT
/-- two sets are equal when they hold the same -/
theorem sg_ext {J : am_J} {s t : Nat} (hs : sgT J s) (ht : sgT J t) (h : ∀ k, k < 95 → sgD J s k = sgD J t k) : J s 0 = J t 0 ∧ J s 1 = J t 1 := by
  have bv : ∀ a b : Int64, (∀ k, k < 64 → bJ a k = bJ b k) → a = b := fun a b h => Int64.toBitVec_inj.mp (BitVec.eq_of_getLsbD_eq (fun i hi => h i hi))
  refine ⟨bv _ _ (fun k hk => ?_), bv _ _ (fun k hk => ?_)⟩
  · rw [← sgD_0 hk, ← sgD_0 hk]
    exact h k (by omega)
  · by_cases h31 : k < 31
    · rw [← sgD_1, ← sgD_1]
      exact h _ (by omega)
    · rw [hs k (by omega), ht k (by omega)]
theorem bJ_zero {a : Int64} (h : ∀ k, k < 64 → bJ a k = false) : a = 0 := Int64.toBitVec_inj.mp (BitVec.eq_of_getLsbD_eq (fun i hi => by
  have := h i hi
  unfold bJ at this
  rw [this]
  simp))
section SPZ2
variable {d : Nat} {P : am_O → Prop} {I : am_I} {J : am_J} {Pf : am_R} {s t c : Nat}
theorem sg_clear (hp : am_PF Pf) (hs : am_SH[s]? = some (.inl 6)) (kk : ∀ J', sgS J J' s (fun _ => false) → P (.inl none, (am_SH, I, J', Pf), 0, 0)) : am_mth (d + 1) 75 [.ref s] (am_SH, I, J, Pf) P :=
  sp_sg_clear hp hs (kk _ (sgS_put (fun _ _ => bJ_0) (fun _ _ => bJ_0) (fun _ _ => bJ_0)))
theorem sg_copy (hp : am_PF Pf) (hs : am_SH[s]? = some (.inl 6)) (ht : am_SH[t]? = some (.inl 6)) (tT : sgT J t) (kk : ∀ J', sgS J J' s (sgD J t) → P (.inl none, (am_SH, I, J', Pf), 0, 0)) : am_mth (d + 1) 76 [.ref s, .ref t] (am_SH, I, J, Pf) P :=
  sp_sg_copy hp hs ht (kk _ (sgS_put (fun _ h => (sgD_0 h).symm) (fun _ _ => sgD_1.symm) tT))
theorem sg_join (hp : am_PF Pf) (hs : am_SH[s]? = some (.inl 6)) (ht : am_SH[t]? = some (.inl 6)) (sT : sgT J s) (tT : sgT J t) (kk : ∀ J', sgS J J' s (fun k => sgD J s k || sgD J t k) → P (.inl none, (am_SH, I, J', Pf), 0, 0)) : am_mth (d + 1) 79 [.ref s, .ref t] (am_SH, I, J, Pf) P :=
  sp_sg_join hp hs ht (kk _ (sgS_put (fun _ h => by rw [bJ_or, sgD_0 h, sgD_0 h]) (fun _ _ => by rw [bJ_or, sgD_1, sgD_1]) (fun k h => by rw [bJ_or, sT k h, tT k h]; rfl)))
theorem sg_meet (hp : am_PF Pf) (hs : am_SH[s]? = some (.inl 6)) (ht : am_SH[t]? = some (.inl 6)) (sT : sgT J s) (kk : ∀ J', sgS J J' s (fun k => sgD J s k && sgD J t k) → P (.inl none, (am_SH, I, J', Pf), 0, 0)) : am_mth (d + 1) 80 [.ref s, .ref t] (am_SH, I, J, Pf) P :=
  sp_sg_meet hp hs ht (kk _ (sgS_put (fun _ h => by rw [bJ_and, sgD_0 h, sgD_0 h]) (fun _ _ => by rw [bJ_and, sgD_1, sgD_1]) (fun k h => by rw [bJ_and, sT k h]; rfl)))
theorem sg_less (hp : am_PF Pf) (hs : am_SH[s]? = some (.inl 6)) (ht : am_SH[t]? = some (.inl 6)) (sT : sgT J s) (kk : ∀ J', sgS J J' s (fun k => sgD J s k && !sgD J t k) → P (.inl none, (am_SH, I, J', Pf), 0, 0)) : am_mth (d + 1) 81 [.ref s, .ref t] (am_SH, I, J, Pf) P :=
  sp_sg_less hp hs ht (kk _ (sgS_put (fun _ h => by rw [bJ_and, bJ_not h, sgD_0 h, sgD_0 h]) (fun _ h => by rw [bJ_and, bJ_not (by omega), sgD_1, sgD_1]) (fun k h => by rw [bJ_and, sT k h]; rfl)))
theorem sg_turn (hp : am_PF Pf) (hs : am_SH[s]? = some (.inl 6)) (kk : ∀ J', sgS J J' s (fun k => !sgD J s k) → P (.inl none, (am_SH, I, J', Pf), 0, 0)) : am_mth (d + 1) 82 [.ref s] (am_SH, I, J, Pf) P :=
  sp_sg_turn hp hs (kk _ (sgS_put (fun _ h => by rw [bJ_not h, sgD_0 h]) (fun k h => by rw [bJ_and, bJ_not (by omega), sgD_1, bJ_hi, decide_eq_true h, Bool.and_true]) (fun k h => by rw [bJ_and, bJ_hi, decide_eq_false (by omega), Bool.and_false])))
theorem sg_add (hp : am_PF Pf) (hs : am_SH[s]? = some (.inl 6)) (sT : sgT J s) (hc : c < 2147483648) (kk : ∀ J', sgS J J' s (fun k => sgD J s k || decide (k + 32 = c)) → P (.inl none, (am_SH, I, J', Pf), 0, 0)) : am_mth (d + 1) 77 [.ref s, .int (ni c)] (am_SH, I, J, Pf) P := by
  have same : (∀ k, k < 95 → ¬ (k + 32 = c)) → P (.inl none, (am_SH, I, J, Pf), 0, 0) := fun h => kk J ⟨fun _ _ => rfl, fun k hk => by show sgD J s k = (sgD J s k || decide (k + 32 = c)); rw [decide_eq_false (h k hk), Bool.or_false], sT⟩
  by_cases h32 : c < 32
  · have c1 := ni_sub32 h32
    have k0 := same (fun k _ => by omega)
    exact am_mth_of rfl rfl (t77_0 hp hs (fun _ => k0) (fun z => absurd c1 z) (fun z => absurd c1 z) (fun z => absurd c1 z))
  · have e : ni c - 32 = ni (c - 32) := ni_sub (b := 32) (by omega)
    have c1 : ¬ (ni c - 32 < 0) := by rw [e]; exact ni_nonneg (by omega)
    have c95 : (ni c - 32 < 95) ↔ c - 32 < 95 := by rw [e]; exact ni_lt (b := 95) (by omega) (by omega)
    have c64 : ((64 : Int32) ≤ ni c - 32) ↔ 64 ≤ c - 32 := by rw [e]; exact ni_le (a := 64) (by omega) (by omega)
    by_cases h95 : c - 32 < 95
    · by_cases h64 : 64 ≤ c - 32
      · have e64 : ni c - 32 - 64 = ni (c - 32 - 64) := by rw [e]; exact ni_sub (b := 64) h64
        refine am_mth_of rfl rfl (t77_0 hp hs (fun z => absurd z c1) (fun _ _ _ => ?_) (fun _ _ z => absurd (c64.mpr h64) z) (fun _ z => absurd (c95.mpr h95) z))
        rw [e64, show am_u J s 1 (J s 1 ||| 1 <<< (Int32.toInt64 (ni (c - 32 - 64)) &&& 63)) = am_u (am_u J s 0 (J s 0)) s 1 (J s 1 ||| 1 <<< (Int32.toInt64 (ni (c - 32 - 64)) &&& 63)) from by rw [am_u_self rfl]]
        refine kk _ (sgS_put (fun k h => ?_) (fun k h => ?_) (fun k h => ?_))
        · rw [sgD_0 h, decide_eq_false (by omega), Bool.or_false]
        · rw [bJ_or, bJ_one (by omega) (by omega), sgD_1]
          congr 1
          exact decide_eq_decide.mpr (by omega)
        · rw [bJ_or, sT k h, Bool.false_or]
          by_cases hk : k < 64
          · rw [bJ_one (by omega) hk, decide_eq_false (by omega)]
          · exact bJ_ge (by omega)
      · refine am_mth_of rfl rfl (t77_0 hp hs (fun z => absurd z c1) (fun _ _ z => absurd (c64.mp z) h64) (fun _ _ _ => ?_) (fun _ z => absurd (c95.mpr h95) z))
        rw [e, show am_u J s 0 (J s 0 ||| 1 <<< (Int32.toInt64 (ni (c - 32)) &&& 63)) = am_u (am_u J s 0 (J s 0 ||| 1 <<< (Int32.toInt64 (ni (c - 32)) &&& 63))) s 1 (J s 1) from (am_u_self (by rw [am_u_nq (by omega)])).symm]
        refine kk _ (sgS_put (fun k h => ?_) (fun k h => ?_) sT)
        · rw [bJ_or, bJ_one (by omega) h, sgD_0 h]
          congr 1
          exact decide_eq_decide.mpr (by omega)
        · rw [sgD_1, decide_eq_false (by omega), Bool.or_false]
    · have k0 := same (fun k hk => by omega)
      have n95 := mt c95.mp h95
      exact am_mth_of rfl rfl (t77_0 hp hs (fun z => absurd z c1) (fun _ z => absurd z n95) (fun _ z => absurd z n95) (fun _ _ => k0))
end SPZ2
