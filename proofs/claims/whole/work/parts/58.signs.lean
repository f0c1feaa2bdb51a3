/-! Sets of signs: the class's, two longs -/
theorem lg_cmp_0 {a b : Int64} : lg_cmp a b = 0 ↔ a = b := by
  unfold lg_cmp
  by_cases h : a > b
  · rw [if_pos h]
    constructor
    · intro e; exact absurd e (by decide)
    · intro e; subst e; exact absurd h (by simp [gt_iff_lt, Int64.lt_iff_toInt_lt])
  · rw [if_neg h]
    by_cases h2 : a = b
    · rw [if_pos h2]; exact ⟨fun _ => h2, fun _ => rfl⟩
    · rw [if_neg h2]
      exact ⟨fun e => absurd e (by decide), fun e => absurd e h2⟩
def bJ (v : Int64) (k : Nat) : Bool := v.toBitVec.getLsbD k
theorem bJ_or (a b : Int64) (k : Nat) : bJ (a ||| b) k = (bJ a k || bJ b k) := by simp [bJ]
theorem bJ_and (a b : Int64) (k : Nat) : bJ (a &&& b) k = (bJ a k && bJ b k) := by simp [bJ]
theorem bJ_ge {v : Int64} {k : Nat} (h : 64 ≤ k) : bJ v k = false := by
  unfold bJ
  exact BitVec.getLsbD_of_ge _ _ h
theorem bJ_m1 {k : Nat} (h : k < 64) : bJ (-1) k = true := by
  have : (List.range 64).all (fun k => bJ (-1) k) = true := by decide +kernel
  exact List.all_eq_true.mp this k (List.mem_range.mpr h)
theorem bJ_xor (a b : Int64) (k : Nat) : bJ (a ^^^ b) k = (bJ a k ^^ bJ b k) := by simp [bJ]
theorem bJ_not {a : Int64} {k : Nat} (h : k < 64) : bJ (a ^^^ (-1)) k = !bJ a k := by
  rw [bJ_xor, bJ_m1 h, Bool.xor_true]
theorem bJ_hi {k : Nat} : bJ 2147483647 k = decide (k < 31) := by
  by_cases h : k < 64
  · have : (List.range 64).all (fun k => bJ 2147483647 k == decide (k < 31)) = true := by decide +kernel
    exact eq_of_beq (List.all_eq_true.mp this k (List.mem_range.mpr h))
  · rw [bJ_ge (by omega), decide_eq_false (by omega)]
theorem bJ_0 {k : Nat} : bJ 0 k = false := by simp [bJ]
theorem bJ_one {j k : Nat} (hj : j < 64) (hk : k < 64) : bJ (1 <<< (Int32.toInt64 (ni j) &&& 63)) k = decide (k = j) := by
  have : (List.range 64).all (fun j => (List.range 64).all (fun k => bJ (1 <<< (Int32.toInt64 (ni j) &&& 63)) k == decide (k = j))) = true := by decide +kernel
  exact eq_of_beq (List.all_eq_true.mp (List.all_eq_true.mp this j (List.mem_range.mpr hj)) k (List.mem_range.mpr hk))
theorem bJ_sh {v : Int64} {j : Nat} (hj : j < 64) : (lg_cmp ((UInt64.toInt64 (Int64.toUInt64 v >>> (Int64.toUInt64 (Int32.toInt64 (ni j)) &&& Int64.toUInt64 63))) &&& 1) 0 = 0) ↔ bJ v j = false := by
  have e : Int64.toUInt64 (Int32.toInt64 (ni j)) &&& Int64.toUInt64 63 = UInt64.ofNat j := by
    have : (List.range 64).all (fun j => Int64.toUInt64 (Int32.toInt64 (ni j)) &&& Int64.toUInt64 63 == UInt64.ofNat j) = true := by decide +kernel
    exact eq_of_beq (List.all_eq_true.mp this j (List.mem_range.mpr hj))
  rw [e, lg_cmp_0, ← Int64.toBitVec_inj]
  unfold bJ
  have e2 : ((UInt64.toInt64 (Int64.toUInt64 v >>> UInt64.ofNat j)) &&& 1 : Int64).toBitVec = (v.toBitVec >>> j) &&& 1#64 := by
    have e3 : ((Int64.toUInt64 v >>> UInt64.ofNat j)).toBitVec = v.toBitVec >>> j := by
      apply BitVec.eq_of_toNat_eq
      have : (Int64.toUInt64 v).toNat = v.toBitVec.toNat := rfl
      have h9 : (Int64.toUInt64 v >>> UInt64.ofNat j).toNat = (Int64.toUInt64 v).toNat >>> (j % 64) := by
        rw [UInt64.toNat_shiftRight]
        congr 1
        simp
      show (Int64.toUInt64 v >>> UInt64.ofNat j).toNat = _
      rw [h9, this, Nat.mod_eq_of_lt hj, BitVec.toNat_ushiftRight]
    rw [Int64.toBitVec_and, UInt64.toBitVec_toInt64, e3]
    rfl
  rw [e2]
  constructor
  · intro h
    have := congrArg (fun z => BitVec.getLsbD z 0) h
    simpa using this
  · intro h
    apply BitVec.eq_of_getLsbD_eq
    intro i hi
    by_cases h0 : i = 0
    · subst h0; simp [h]
    · simp [h0]
/-- what a set holds -/
def sgD (J : am_J) (s : Nat) (k : Nat) : Bool := if k < 64 then bJ (J s 0) k else bJ (J s 1) (k - 64)
/-- no sign behind the last one -/
def sgT (J : am_J) (s : Nat) : Prop := ∀ k, 31 ≤ k → bJ (J s 1) k = false
/-- whether a set holds a sign told by its code -/
def sgH (f : Nat → Bool) (c : Nat) : Bool := decide (32 ≤ c ∧ c ≤ 126) && f (c - 32)
theorem ni_sub32 {c : Nat} (h : c < 32) : ni c - 32 < 0 := by
  have : (List.range 32).all (fun c => decide (ni c - 32 < 0)) = true := by decide +kernel
  exact of_decide_eq_true (List.all_eq_true.mp this c (List.mem_range.mpr h))
section SPZ
variable {d : Nat} {P : am_O → Prop} {I : am_I} {J : am_J} {Pf : am_R} {s t c : Nat}
theorem sp_sg_clear (hp : am_PF Pf) (hs : am_SH[s]? = some (.inl 6)) (kk : P (.inl none, (am_SH, I, am_u (am_u J s 0 0) s 1 0, Pf), 0, 0)) : am_mth (d + 1) 75 [.ref s] (am_SH, I, J, Pf) P := am_mth_of rfl rfl (t75_0 hp hs kk)
theorem sp_sg_copy (hp : am_PF Pf) (hs : am_SH[s]? = some (.inl 6)) (ht : am_SH[t]? = some (.inl 6)) (kk : P (.inl none, (am_SH, I, am_u (am_u J s 0 (J t 0)) s 1 (J t 1), Pf), 0, 0)) : am_mth (d + 1) 76 [.ref s, .ref t] (am_SH, I, J, Pf) P := by
  have e : am_u J s 0 (J t 0) t 1 = J t 1 := am_u_nq (by omega)
  refine am_mth_of rfl rfl (t76_0 hp hs ht ?_)
  rw [e]
  exact kk
theorem sp_sg_join (hp : am_PF Pf) (hs : am_SH[s]? = some (.inl 6)) (ht : am_SH[t]? = some (.inl 6)) (kk : P (.inl none, (am_SH, I, am_u (am_u J s 0 (J s 0 ||| J t 0)) s 1 (J s 1 ||| J t 1), Pf), 0, 0)) : am_mth (d + 1) 79 [.ref s, .ref t] (am_SH, I, J, Pf) P := by
  have e : am_u J s 0 (J s 0 ||| J t 0) t 1 = J t 1 := am_u_nq (by omega)
  refine am_mth_of rfl rfl (t79_0 hp hs ht ?_)
  rw [e]
  exact kk
theorem sp_sg_meet (hp : am_PF Pf) (hs : am_SH[s]? = some (.inl 6)) (ht : am_SH[t]? = some (.inl 6)) (kk : P (.inl none, (am_SH, I, am_u (am_u J s 0 (J s 0 &&& J t 0)) s 1 (J s 1 &&& J t 1), Pf), 0, 0)) : am_mth (d + 1) 80 [.ref s, .ref t] (am_SH, I, J, Pf) P := by
  have e : am_u J s 0 (J s 0 &&& J t 0) t 1 = J t 1 := am_u_nq (by omega)
  refine am_mth_of rfl rfl (t80_0 hp hs ht ?_)
  rw [e]
  exact kk
theorem sp_sg_less (hp : am_PF Pf) (hs : am_SH[s]? = some (.inl 6)) (ht : am_SH[t]? = some (.inl 6)) (kk : P (.inl none, (am_SH, I, am_u (am_u J s 0 (J s 0 &&& (J t 0 ^^^ (-1)))) s 1 (J s 1 &&& (J t 1 ^^^ (-1))), Pf), 0, 0)) : am_mth (d + 1) 81 [.ref s, .ref t] (am_SH, I, J, Pf) P := by
  have e : am_u J s 0 (J s 0 &&& (J t 0 ^^^ (-1))) t 1 = J t 1 := am_u_nq (by omega)
  refine am_mth_of rfl rfl (t81_0 hp hs ht ?_)
  rw [e]
  exact kk
theorem sp_sg_turn (hp : am_PF Pf) (hs : am_SH[s]? = some (.inl 6)) (kk : P (.inl none, (am_SH, I, am_u (am_u J s 0 (J s 0 ^^^ (-1))) s 1 ((J s 1 ^^^ (-1)) &&& 2147483647), Pf), 0, 0)) : am_mth (d + 1) 82 [.ref s] (am_SH, I, J, Pf) P := am_mth_of rfl rfl (t82_0 hp hs kk)
theorem sp_sg_has (hp : am_PF Pf) (hs : am_SH[s]? = some (.inl 6)) (hc : c < 2147483648) (kk : P (.inl (some (.int (b2 (sgH (sgD J s) c)))), (am_SH, I, J, Pf), 0, 0)) : am_mth (d + 1) 78 [.ref s, .int (ni c)] (am_SH, I, J, Pf) P := by
  have e0 : ∀ b, sgH (sgD J s) c = b → P (.inl (some (.int (b2 b))), (am_SH, I, J, Pf), 0, 0) := fun b h => by rw [h] at kk; exact kk
  by_cases h32 : c < 32
  · have c1 := ni_sub32 h32
    have k0 := e0 false (by unfold sgH; rw [decide_eq_false (by omega)]; rfl)
    exact am_mth_of rfl rfl (t78_0 hp hs (fun _ => k0) (fun z => absurd c1 z) (fun z => absurd c1 z) (fun z => absurd c1 z) (fun z => absurd c1 z) (fun z => absurd c1 z))
  · have e : ni c - 32 = ni (c - 32) := ni_sub (b := 32) (by omega)
    have c1 : ¬ (ni c - 32 < 0) := by rw [e]; exact ni_nonneg (by omega)
    have c95 : (ni c - 32 < 95) ↔ c - 32 < 95 := by rw [e]; exact ni_lt (b := 95) (by omega) (by omega)
    have c64 : ((64 : Int32) ≤ ni c - 32) ↔ 64 ≤ c - 32 := by rw [e]; exact ni_le (a := 64) (by omega) (by omega)
    by_cases h95 : c - 32 < 95
    · have hd : decide (32 ≤ c ∧ c ≤ 126) = true := decide_eq_true (by omega)
      by_cases h64 : 64 ≤ c - 32
      · have es : sgH (sgD J s) c = bJ (J s 1) (c - 32 - 64) := by
          unfold sgH sgD
          rw [hd, if_neg (by omega)]
          rfl
        have e64 : ni c - 32 - 64 = ni (c - 32 - 64) := by rw [e]; exact ni_sub (b := 64) h64
        refine am_mth_of rfl rfl (t78_0 hp hs (fun z => absurd z c1) (fun _ _ _ z => ?_) (fun _ _ _ z => ?_) (fun _ _ z => absurd (c64.mpr h64) z) (fun _ _ z => absurd (c64.mpr h64) z) (fun _ z => absurd (c95.mpr h95) z))
        · rw [e64, bJ_sh (by omega)] at z
          exact e0 false (es.trans z)
        · rw [e64, bJ_sh (by omega), Bool.not_eq_false] at z
          exact e0 true (es.trans z)
      · have es : sgH (sgD J s) c = bJ (J s 0) (c - 32) := by
          unfold sgH sgD
          rw [hd, if_pos (by omega)]
          rfl
        refine am_mth_of rfl rfl (t78_0 hp hs (fun z => absurd z c1) (fun _ _ z => absurd (c64.mp z) h64) (fun _ _ z => absurd (c64.mp z) h64) (fun _ _ _ z => ?_) (fun _ _ _ z => ?_) (fun _ z => absurd (c95.mpr h95) z))
        · rw [e, bJ_sh (by omega)] at z
          exact e0 false (es.trans z)
        · rw [e, bJ_sh (by omega), Bool.not_eq_false] at z
          exact e0 true (es.trans z)
    · have k0 := e0 false (by unfold sgH; rw [decide_eq_false (by omega)]; rfl)
      have n95 := mt c95.mp h95
      exact am_mth_of rfl rfl (t78_0 hp hs (fun z => absurd z c1) (fun _ z => absurd z n95) (fun _ z => absurd z n95) (fun _ z => absurd z n95) (fun _ z => absurd z n95) (fun _ _ => k0))
end SPZ
