/-! The machine counts bits -/

theorem ni_all (v : Int32) : ∃ n, n < 4294967296 ∧ v = ni n ∧ ∀ k, bI v k = n.testBit k := by
  refine ⟨v.toBitVec.toNat, v.toBitVec.isLt, ?_, fun k => ?_⟩
  · rw [← Int32.toBitVec_inj]
    show _ = BitVec.ofNat 32 _
    rw [BitVec.ofNat_toNat]
    simp
  · rfl
theorem li_all (v : Int64) : ∃ n, n < 18446744073709551616 ∧ v = li n ∧ ∀ k, bJ v k = n.testBit k := by
  refine ⟨v.toBitVec.toNat, v.toBitVec.isLt, ?_, fun k => ?_⟩
  · rw [← Int64.toBitVec_inj]
    show _ = BitVec.ofNat 64 _
    rw [BitVec.ofNat_toNat]
    simp
  · rfl
theorem ni_and (a b : Nat) : ni a &&& ni b = ni (a &&& b) := by
  rw [← Int32.toBitVec_inj, Int32.toBitVec_and]
  show BitVec.ofNat 32 a &&& BitVec.ofNat 32 b = BitVec.ofNat 32 (a &&& b)
  exact (BitVec.ofNat_and).symm
theorem li_and (a b : Nat) : li a &&& li b = li (a &&& b) := by
  rw [← Int64.toBitVec_inj, Int64.toBitVec_and]
  show BitVec.ofNat 64 a &&& BitVec.ofNat 64 b = BitVec.ofNat 64 (a &&& b)
  exact (BitVec.ofNat_and).symm
theorem ni_us {a k : Nat} (ha : a < 4294967296) (hk : k < 32) : UInt32.toInt32 (Int32.toUInt32 (ni a) >>> (Int32.toUInt32 (ni k) &&& Int32.toUInt32 31)) = ni (a >>> k) := by
  rw [← Int32.toBitVec_inj]
  show (Int32.toUInt32 (ni a) >>> (Int32.toUInt32 (ni k) &&& Int32.toUInt32 31)).toBitVec = BitVec.ofNat 32 (a >>> k)
  rw [UInt32.toBitVec_shiftRight]
  have : (List.range 32).all (fun j => ((Int32.toUInt32 (ni j) &&& Int32.toUInt32 31).toBitVec.umod 32).toNat == j) = true := by decide +kernel
  have h2 := eq_of_beq (List.all_eq_true.mp this k (List.mem_range.mpr hk))
  show (BitVec.ofNat 32 a) >>> (BitVec.toNat _) = _
  rw [show ((Int32.toUInt32 (ni k) &&& Int32.toUInt32 31).toBitVec % 32).toNat = k from h2]
  apply BitVec.eq_of_toNat_eq
  rw [BitVec.toNat_ushiftRight, BitVec.toNat_ofNat, BitVec.toNat_ofNat, Nat.mod_eq_of_lt (by omega), Nat.mod_eq_of_lt]
  rw [Nat.shiftRight_eq_div_pow]
  have := Nat.div_le_self a (2 ^ k)
  omega
theorem li_us {a k : Nat} (ha : a < 18446744073709551616) (hk : k < 64) : UInt64.toInt64 (Int64.toUInt64 (li a) >>> (Int64.toUInt64 (Int32.toInt64 (ni k)) &&& Int64.toUInt64 63)) = li (a >>> k) := by
  rw [← Int64.toBitVec_inj]
  show (Int64.toUInt64 (li a) >>> (Int64.toUInt64 (Int32.toInt64 (ni k)) &&& Int64.toUInt64 63)).toBitVec = BitVec.ofNat 64 (a >>> k)
  rw [UInt64.toBitVec_shiftRight]
  have : (List.range 64).all (fun j => ((Int64.toUInt64 (Int32.toInt64 (ni j)) &&& Int64.toUInt64 63).toBitVec.umod 64).toNat == j) = true := by decide +kernel
  have h2 := eq_of_beq (List.all_eq_true.mp this k (List.mem_range.mpr hk))
  show (BitVec.ofNat 64 a) >>> (BitVec.toNat _) = _
  rw [show ((Int64.toUInt64 (Int32.toInt64 (ni k)) &&& Int64.toUInt64 63).toBitVec % 64).toNat = k from h2]
  apply BitVec.eq_of_toNat_eq
  rw [BitVec.toNat_ushiftRight, BitVec.toNat_ofNat, BitVec.toNat_ofNat, Nat.mod_eq_of_lt (by omega), Nat.mod_eq_of_lt]
  rw [Nat.shiftRight_eq_div_pow]
  have := Nat.div_le_self a (2 ^ k)
  omega
theorem li_add (a b : Nat) : li a + li b = li (a + b) := (Int64.ofNat_add a b).symm
theorem li_sub {a b : Nat} (h : b ≤ a) : li a - li b = li (a - b) := (Int64.ofNat_sub a b h).symm
theorem li_int (a : Nat) : Int64.toInt32 (li a) = ni a := by
  rw [← Int32.toBitVec_inj]
  show (BitVec.ofNat 64 a).signExtend 32 = BitVec.ofNat 32 a
  rw [BitVec.signExtend_eq_setWidth_of_le _ (by omega)]
  apply BitVec.eq_of_toNat_eq
  rw [BitVec.toNat_setWidth, BitVec.toNat_ofNat, BitVec.toNat_ofNat]
  exact Nat.mod_mod_of_dvd a (by decide)
section CNT
variable {d : Nat} {P : am_O → Prop} {I : am_I} {J : am_J} {Pf : am_R}
def us32 (x k : Int32) : Int32 := UInt32.toInt32 (Int32.toUInt32 x >>> (Int32.toUInt32 k &&& Int32.toUInt32 31))
def c32a (x : Int32) : Int32 := x - (us32 x 1 &&& 1431655765)
def c32b (x : Int32) : Int32 := (x &&& 858993459) + (us32 x 2 &&& 858993459)
def c32c (x : Int32) : Int32 := (x + us32 x 4) &&& 252645135
def c32d (x : Int32) : Int32 := x + us32 x 8
def c32e (x : Int32) : Int32 := x + us32 x 16
theorem c32_eq (v : Int32) : c32e (c32d (c32c (c32b (c32a v)))) &&& 63 = ni (cntN (fun k => bI v k) 32) := by
  obtain ⟨n, h1, rfl, h3⟩ := ni_all v
  have us : ∀ a k : Nat, a < 4294967296 → k < 32 → us32 (ni a) (ni k) = ni (a >>> k) := fun a k h h' => ni_us h h'
  obtain ⟨g1, g2, g3, g4, g5⟩ := q12 4 n (by omega)
  have m1 : (1431655765 : Int32) = ni (mk8 0x55 4) := by decide
  have m2 : (858993459 : Int32) = ni (mk8 0x33 4) := by decide
  have m3 : (252645135 : Int32) = ni (mk8 0x0f 4) := by decide
  have e1 : c32a (ni n) = ni (q1 4 n) := by
    unfold c32a q1
    rw [show (1 : Int32) = ni 1 from rfl, us _ _ h1 (by omega), m1, ni_and, ni_sub g1]
  have e2 : c32b (ni (q1 4 n)) = ni (q2 4 (q1 4 n)) := by
    unfold c32b q2
    rw [show (2 : Int32) = ni 2 from rfl, us _ _ (by omega) (by omega), m2, ni_and, ni_and, ni_add]
  have e3 : c32c (ni (q2 4 (q1 4 n))) = ni (q3 4 (q2 4 (q1 4 n))) := by
    unfold c32c q3
    rw [show (4 : Int32) = ni 4 from rfl, us _ _ (by omega) (by omega), m3, ni_add, ni_and]
  obtain ⟨p1, p2, p3, p4⟩ := pop32 (x := n) h1 rfl rfl
  have e4 : c32d (ni (q3 4 (q2 4 (q1 4 n)))) = ni (q3 4 (q2 4 (q1 4 n)) + q3 4 (q2 4 (q1 4 n)) >>> 8) := by
    unfold c32d
    rw [show (8 : Int32) = ni 8 from rfl, us _ _ p4 (by omega), ni_add]
  rw [e1, e2, e3, e4]
  unfold c32e
  rw [show (16 : Int32) = ni 16 from rfl, us _ _ p3 (by omega), ni_add, show (63 : Int32) = ni (2 ^ 6 - 1) from rfl, ni_and, Nat.and_two_pow_sub_one_eq_mod]
  congr 1
  show _ % 64 = _
  rw [p1]
  exact cntN_congr 32 (fun k _ => (h3 k).symm)
theorem jd_count (hp : am_PF Pf) {v : Int32} (kk : P (.inl (some (.int (ni (cntN (fun k => bI v k) 32)))), (am_SH, I, J, Pf), 0, 0)) : am_mth (d + 1) 327 [.int v] (am_SH, I, J, Pf) P := by
  refine am_mth_of rfl rfl (t327_0 hp ?_)
  rw [← c32_eq] at kk
  exact kk
def us64 (x : Int64) (k : Int32) : Int64 := UInt64.toInt64 (Int64.toUInt64 x >>> (Int64.toUInt64 (Int32.toInt64 k) &&& Int64.toUInt64 63))
def c64a (x : Int64) : Int64 := x - (us64 x 1 &&& 6148914691236517205)
def c64b (x : Int64) : Int64 := (x &&& 3689348814741910323) + (us64 x 2 &&& 3689348814741910323)
def c64c (x : Int64) : Int64 := (x + us64 x 4) &&& 1085102592571150095
def c64d (x : Int64) : Int64 := x + us64 x 8
def c64e (x : Int64) : Int64 := x + us64 x 16
def c64f (x : Int64) : Int64 := x + us64 x 32
theorem c64_eq (v : Int64) : Int64.toInt32 (c64f (c64e (c64d (c64c (c64b (c64a v)))))) &&& 127 = ni (cntN (fun k => bJ v k) 64) := by
  obtain ⟨n, h1, rfl, h3⟩ := li_all v
  have us : ∀ a k : Nat, a < 18446744073709551616 → k < 64 → us64 (li a) (ni k) = li (a >>> k) := fun a k h h' => li_us h h'
  obtain ⟨g1, g2, g3, g4, g5⟩ := q12 8 n (by omega)
  have m1 : (6148914691236517205 : Int64) = li (mk8 0x55 8) := by decide
  have m2 : (3689348814741910323 : Int64) = li (mk8 0x33 8) := by decide
  have m3 : (1085102592571150095 : Int64) = li (mk8 0x0f 8) := by decide
  have e1 : c64a (li n) = li (q1 8 n) := by
    unfold c64a q1
    rw [show (1 : Int32) = ni 1 from rfl, us _ _ h1 (by omega), m1, li_and, li_sub g1]
  have e2 : c64b (li (q1 8 n)) = li (q2 8 (q1 8 n)) := by
    unfold c64b q2
    rw [show (2 : Int32) = ni 2 from rfl, us _ _ (by omega) (by omega), m2, li_and, li_and, li_add]
  have e3 : c64c (li (q2 8 (q1 8 n))) = li (q3 8 (q2 8 (q1 8 n))) := by
    unfold c64c q3
    rw [show (4 : Int32) = ni 4 from rfl, us _ _ (by omega) (by omega), m3, li_add, li_and]
  obtain ⟨p1, p2, p3, p4, p5⟩ := pop64 (x := n) h1 rfl rfl rfl
  have e4 : c64d (li (q3 8 (q2 8 (q1 8 n)))) = li (q3 8 (q2 8 (q1 8 n)) + q3 8 (q2 8 (q1 8 n)) >>> 8) := by
    unfold c64d
    rw [show (8 : Int32) = ni 8 from rfl, us _ _ p5 (by omega), li_add]
  rw [e1, e2, e3, e4]
  generalize q3 8 (q2 8 (q1 8 n)) + q3 8 (q2 8 (q1 8 n)) >>> 8 = y at *
  have e5 : c64e (li y) = li (y + y >>> 16) := by
    unfold c64e
    rw [show (16 : Int32) = ni 16 from rfl, us _ _ p4 (by omega), li_add]
  rw [e5]
  unfold c64f
  rw [show (32 : Int32) = ni 32 from rfl, us _ _ p3 (by omega), li_add, li_int, show (127 : Int32) = ni (2 ^ 7 - 1) from rfl, ni_and, Nat.and_two_pow_sub_one_eq_mod]
  congr 1
  show _ % 128 = _
  rw [p1]
  exact cntN_congr 64 (fun k _ => (h3 k).symm)
theorem jd_count64 (hp : am_PF Pf) {v : Int64} (kk : P (.inl (some (.int (ni (cntN (fun k => bJ v k) 64)))), (am_SH, I, J, Pf), 0, 0)) : am_mth (d + 1) 328 [.long v] (am_SH, I, J, Pf) P := by
  refine am_mth_of rfl rfl (t328_0 hp ?_)
  rw [← c64_eq] at kk
  exact kk
end CNT
