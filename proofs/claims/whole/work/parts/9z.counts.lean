/-! How many bits are set -/
def mk8 (c : Nat) : Nat → Nat
  | 0 => 0
  | n + 1 => c + 256 * mk8 c n
theorem and8 {a b c d : Nat} (ha : a < 256) (hc : c < 256) : (a + 256 * b) &&& (c + 256 * d) = (a &&& c) + 256 * (b &&& d) := by
  refine Nat.eq_of_testBit_eq (fun i => ?_)
  have e : ∀ x y : Nat, x + 256 * y = 2 ^ 8 * y + x := fun x y => by omega
  rw [e, e, e, Nat.testBit_and, Nat.testBit_two_pow_mul_add _ (by omega), Nat.testBit_two_pow_mul_add _ (by omega), Nat.testBit_two_pow_mul_add _ (by have := Nat.and_le_left (n := a) (m := c); omega)]
  split
  · rw [Nat.testBit_and]
  · rw [Nat.testBit_and]
theorem sh8 {a b k : Nat} (hk : k ≤ 8) : (a + 256 * b) >>> k = (a >>> k + 2 ^ (8 - k) * (b % 2 ^ k)) + 256 * (b >>> k) := by
  rw [Nat.shiftRight_eq_div_pow, Nat.shiftRight_eq_div_pow, Nat.shiftRight_eq_div_pow]
  have e : 256 = 2 ^ k * 2 ^ (8 - k) := by rw [← Nat.pow_add, show k + (8 - k) = 8 by omega]
  have h1 : (a + 256 * b) / 2 ^ k = a / 2 ^ k + 2 ^ (8 - k) * b := by
    rw [e, Nat.mul_assoc, Nat.add_mul_div_left _ _ (Nat.two_pow_pos k)]
  rw [h1]
  have h2 : b = b % 2 ^ k + 2 ^ k * (b / 2 ^ k) := (Nat.mod_add_div b (2 ^ k)).symm
  have h3 : 2 ^ (8 - k) * b = 2 ^ (8 - k) * (b % 2 ^ k) + 256 * (b / 2 ^ k) := by
    have : 2 ^ (8 - k) * (b % 2 ^ k + 2 ^ k * (b / 2 ^ k)) = 2 ^ (8 - k) * (b % 2 ^ k) + 256 * (b / 2 ^ k) := by
      rw [Nat.mul_add, ← Nat.mul_assoc, e, Nat.mul_comm (2 ^ (8 - k)) (2 ^ k)]
    rw [← h2] at this
    exact this
  omega
/-- a shift behind which a mask leaves what came over out -/
theorem sa8 {a b c d k : Nat} (hk : k ≤ 8) (ha : a < 256) (hc : c < 2 ^ (8 - k)) : ((a + 256 * b) >>> k) &&& (c + 256 * d) = ((a >>> k) &&& c) + 256 * ((b >>> k) &&& d) := by
  have hp : 2 ^ (8 - k) * 2 ^ k = 256 := by rw [← Nat.pow_add, show 8 - k + k = 8 by omega]
  have h1 : a >>> k < 2 ^ (8 - k) := by
    rw [Nat.shiftRight_eq_div_pow, Nat.div_lt_iff_lt_mul (Nat.two_pow_pos k), hp]
    exact ha
  have h2 : b % 2 ^ k < 2 ^ k := Nat.mod_lt _ (Nat.two_pow_pos k)
  have h3 : a >>> k + 2 ^ (8 - k) * (b % 2 ^ k) < 256 := by
    have : 2 ^ (8 - k) * (b % 2 ^ k + 1) ≤ 2 ^ (8 - k) * 2 ^ k := Nat.mul_le_mul_left _ (by omega)
    rw [hp, Nat.mul_add, Nat.mul_one] at this
    omega
  have h4 : c < 256 := by
    have : 2 ^ (8 - k) ≤ 2 ^ 8 := Nat.pow_le_pow_right (by omega) (by omega)
    omega
  rw [sh8 hk, and8 h3 h4]
  congr 1
  refine Nat.eq_of_testBit_eq (fun i => ?_)
  rw [Nat.testBit_and, Nat.testBit_and, Nat.add_comm (a >>> k), Nat.testBit_two_pow_mul_add _ h1]
  split
  · rfl
  · rw [Nat.testBit_lt_two_pow (x := c) (i := i) (Nat.lt_of_lt_of_le hc (Nat.pow_le_pow_right (by omega) (by omega))), Bool.and_false, Bool.and_false]
def q1 (n x : Nat) : Nat := x - ((x >>> 1) &&& mk8 0x55 n)
def q2 (n y : Nat) : Nat := (y &&& mk8 0x33 n) + ((y >>> 2) &&& mk8 0x33 n)
def q3 (n z : Nat) : Nat := (z + z >>> 4) &&& mk8 0x0f n
/-- bytes, the lowest first -/
def byv (f : Nat → Nat) : Nat → Nat → Nat
  | _, 0 => 0
  | i, n + 1 => f i + 256 * byv f (i + 1) n
theorem b8_1 : (List.range 256).all (fun a => decide ((a >>> 1 &&& 0x55) ≤ a ∧ a - (a >>> 1 &&& 0x55) < 256 ∧ ((a - (a >>> 1 &&& 0x55)) &&& 0x33) + ((a - (a >>> 1 &&& 0x55)) >>> 2 &&& 0x33) ≤ 0x44 ∧ (((a - (a >>> 1 &&& 0x55)) &&& 0x33) + ((a - (a >>> 1 &&& 0x55)) >>> 2 &&& 0x33)) % 16 ≤ 4 ∧ ((((a - (a >>> 1 &&& 0x55)) &&& 0x33) + ((a - (a >>> 1 &&& 0x55)) >>> 2 &&& 0x33)) + (((a - (a >>> 1 &&& 0x55)) &&& 0x33) + ((a - (a >>> 1 &&& 0x55)) >>> 2 &&& 0x33)) >>> 4) % 16 = cntN (fun k => a.testBit k) 8)) = true := by decide +kernel
def s1 (a : Nat) : Nat := a - (a >>> 1 &&& 0x55)
def s2 (a : Nat) : Nat := (s1 a &&& 0x33) + (s1 a >>> 2 &&& 0x33)
theorem b8_at {a : Nat} (h : a < 256) : (a >>> 1 &&& 0x55) ≤ a ∧ s1 a < 256 ∧ s2 a ≤ 0x44 ∧ s2 a % 16 ≤ 4 ∧ (s2 a + s2 a >>> 4) % 16 = cntN (fun k => a.testBit k) 8 := of_decide_eq_true (List.all_eq_true.mp b8_1 a (List.mem_range.mpr h))
theorem q12 (n : Nat) : ∀ x, x < 256 ^ n → ((x >>> 1) &&& mk8 0x55 n) ≤ x ∧ q2 n (q1 n x) % 16 ≤ 4 ∧ q2 n (q1 n x) % 256 ≤ 0x44 ∧ q1 n x < 256 ^ n ∧ q2 n (q1 n x) < 256 ^ n := by
  induction n with
  | zero =>
    intro x h
    have : x = 0 := by
      rw [Nat.pow_zero] at h
      omega
    subst this
    refine ⟨by decide, by decide, by decide, by decide, by decide⟩
  | succ n ih =>
    intro x h
    obtain ⟨a, b, ha, rfl⟩ : ∃ a b, a < 256 ∧ x = a + 256 * b := ⟨x % 256, x / 256, by omega, by omega⟩
    have hb : b < 256 ^ n := by rw [Nat.pow_succ] at h; omega
    obtain ⟨i1, i2, i3, i4, i5⟩ := ih b hb
    obtain ⟨g1, g2, g3, g4, -⟩ := b8_at ha
    have e1 : ((a + 256 * b) >>> 1) &&& mk8 0x55 (n + 1) = (a >>> 1 &&& 0x55) + 256 * ((b >>> 1) &&& mk8 0x55 n) := sa8 (by omega) ha (by decide)
    have e2 : q1 (n + 1) (a + 256 * b) = s1 a + 256 * q1 n b := by
      unfold q1 s1
      rw [e1]
      omega
    have e3 : q2 (n + 1) (q1 (n + 1) (a + 256 * b)) = s2 a + 256 * q2 n (q1 n b) := by
      rw [e2]
      show ((s1 a + 256 * q1 n b) &&& (0x33 + 256 * mk8 0x33 n)) + (((s1 a + 256 * q1 n b) >>> 2) &&& (0x33 + 256 * mk8 0x33 n)) = _
      rw [and8 g2 (by omega), sa8 (by omega) g2 (by decide)]
      unfold s2
      show _ = _ + 256 * ((q1 n b &&& mk8 0x33 n) + ((q1 n b >>> 2) &&& mk8 0x33 n))
      omega
    rw [e1, e3, e2, Nat.pow_succ]
    refine ⟨by omega, by omega, by omega, ?_, ?_⟩ <;> omega
theorem cntN_add (X : Nat → Bool) (m : Nat) : ∀ n, cntN X (m + n) = cntN X m + cntN (fun k => X (m + k)) n
  | 0 => rfl
  | n + 1 => by
    show cntN X (m + n) + (if X (m + n) = true then 1 else 0) = cntN X m + (cntN (fun k => X (m + k)) n + (if X (m + n) = true then 1 else 0))
    rw [cntN_add X m n]
    omega
theorem cntN_congr {X Y : Nat → Bool} : ∀ n, (∀ k, k < n → X k = Y k) → cntN X n = cntN Y n
  | 0, _ => rfl
  | n + 1, h => by
    show cntN X n + (if X n = true then 1 else 0) = cntN Y n + (if Y n = true then 1 else 0)
    rw [cntN_congr n (fun k hk => h k (by omega)), h n (by omega)]
/-- behind three steps each byte tells how many of its bits are set -/
theorem q123 (n : Nat) : ∀ x i, x < 256 ^ n → (∀ y, y < 256 ^ n → x = y → q3 n (q2 n (q1 n x)) = byv (fun j => cntN (fun k => x.testBit (8 * (j - i) + k)) 8) i n) := by
  induction n with
  | zero => intro x i h y _ _; show _ &&& 0 = 0; exact Nat.and_zero _
  | succ n ih =>
    intro x i h y _ _
    obtain ⟨a, b, ha, rfl⟩ : ∃ a b, a < 256 ∧ x = a + 256 * b := ⟨x % 256, x / 256, by omega, by omega⟩
    have hb : b < 256 ^ n := by rw [Nat.pow_succ] at h; omega
    obtain ⟨i1, i2, i3, i4, i5⟩ := q12 n b hb
    obtain ⟨g1, g2, g3, g4, g5⟩ := b8_at ha
    have e1 : ((a + 256 * b) >>> 1) &&& mk8 0x55 (n + 1) = (a >>> 1 &&& 0x55) + 256 * ((b >>> 1) &&& mk8 0x55 n) := sa8 (by omega) ha (by decide)
    have e2 : q1 (n + 1) (a + 256 * b) = s1 a + 256 * q1 n b := by
      unfold q1 s1
      rw [e1]
      omega
    have e3 : q2 (n + 1) (q1 (n + 1) (a + 256 * b)) = s2 a + 256 * q2 n (q1 n b) := by
      rw [e2]
      show ((s1 a + 256 * q1 n b) &&& (0x33 + 256 * mk8 0x33 n)) + (((s1 a + 256 * q1 n b) >>> 2) &&& (0x33 + 256 * mk8 0x33 n)) = _
      rw [and8 g2 (by omega), sa8 (by omega) g2 (by decide)]
      unfold s2
      show _ = _ + 256 * ((q1 n b &&& mk8 0x33 n) + ((q1 n b >>> 2) &&& mk8 0x33 n))
      omega
    have e4 : q3 (n + 1) (s2 a + 256 * q2 n (q1 n b)) = (s2 a + s2 a >>> 4) % 16 + 256 * q3 n (q2 n (q1 n b)) := by
      show ((s2 a + 256 * q2 n (q1 n b)) + (s2 a + 256 * q2 n (q1 n b)) >>> 4) &&& (0x0f + 256 * mk8 0x0f n) = _
      generalize q2 n (q1 n b) = z at *
      rw [sh8 (by omega)]
      have h5 : s2 a >>> 4 ≤ 4 := by rw [Nat.shiftRight_eq_div_pow]; omega
      rw [show (s2 a + 256 * z) + ((s2 a >>> 4 + 2 ^ (8 - 4) * (z % 2 ^ 4)) + 256 * (z >>> 4)) = (s2 a + s2 a >>> 4 + 16 * (z % 16)) + 256 * (z + z >>> 4) by omega, and8 (by omega) (by omega)]
      show _ = _ + 256 * ((z + z >>> 4) &&& mk8 0x0f n)
      congr 1
      rw [show (0x0f : Nat) = 2 ^ 4 - 1 from rfl, Nat.and_two_pow_sub_one_eq_mod]
      omega
    rw [e3, e4, g5]
    show _ = cntN (fun k => (a + 256 * b).testBit (8 * (i - i) + k)) 8 + 256 * byv _ (i + 1) n
    have tb : ∀ k, (a + 256 * b).testBit k = if k < 8 then a.testBit k else b.testBit (k - 8) := fun k => by
      rw [show a + 256 * b = 2 ^ 8 * b + a by omega, Nat.testBit_two_pow_mul_add _ (by omega)]
    congr 1
    · refine cntN_congr 8 (fun k hk => ?_)
      rw [tb, if_pos (by omega), show 8 * (i - i) + k = k by omega]
    · congr 1
      rw [ih b (i + 1) hb b hb rfl]
      have : ∀ m j, i + 1 ≤ j → byv (fun j => cntN (fun k => b.testBit (8 * (j - (i + 1)) + k)) 8) j m = byv (fun j => cntN (fun k => (a + 256 * b).testBit (8 * (j - i) + k)) 8) j m := by
        intro m
        induction m with
        | zero => intro j _; rfl
        | succ m ihm =>
          intro j hj
          show cntN _ 8 + 256 * byv _ (j + 1) m = cntN _ 8 + 256 * byv _ (j + 1) m
          rw [ihm (j + 1) (by omega)]
          congr 1
          refine cntN_congr 8 (fun k hk => ?_)
          rw [tb, if_neg (by omega)]
          congr 1
          omega
      exact this n (i + 1) (Nat.le_refl _)
theorem shq {r q k : Nat} (hr : r < 2 ^ k) : (r + 2 ^ k * q) >>> k = q := by
  rw [Nat.shiftRight_eq_div_pow, Nat.add_mul_div_left _ _ (Nat.two_pow_pos k), Nat.div_eq_of_lt hr, Nat.zero_add]
theorem fld4 {p0 p1 p2 p3 : Nat} (a0 : p0 ≤ 8) (a1 : p1 ≤ 8) (a2 : p2 ≤ 8) (a3 : p3 ≤ 8) {X Y : Nat} (hX : X = p0 + 256 * (p1 + 256 * (p2 + 256 * (p3 + 256 * 0)))) (hY : Y = X + X >>> 8) : (Y + Y >>> 16) % 64 = p0 + p1 + p2 + p3 ∧ Y + Y >>> 16 < 4294967296 ∧ Y < 4294967296 ∧ X < 4294967296 := by
  have e1 : X >>> 8 = p1 + 256 * (p2 + 256 * (p3 + 256 * 0)) := by
    rw [hX]
    exact shq (k := 8) (by omega)
  have e2 : Y = ((p0 + p1) + 256 * (p1 + p2)) + 2 ^ 16 * ((p2 + p3) + 256 * p3) := by
    rw [hY, e1, hX]
    omega
  have e3 : Y >>> 16 = (p2 + p3) + 256 * p3 := by
    rw [e2]
    exact shq (by omega)
  rw [e3]
  have e4 : Y + ((p2 + p3) + 256 * p3) = (p0 + p1 + p2 + p3) + 64 * (4 * (p1 + p2 + p3) + 1024 * (p2 + p3) + 262144 * p3) := by
    rw [e2]
    omega
  rw [e4, Nat.add_mul_mod_self_left, Nat.mod_eq_of_lt (by omega)]
  exact ⟨rfl, by omega, by omega, by omega⟩
theorem ln2 (p0 p1 p2 p3 p4 p5 p6 p7 : Nat) : p0 + 256 * (p1 + 256 * (p2 + 256 * (p3 + 256 * (p4 + 256 * (p5 + 256 * (p6 + 256 * (p7 + 256 * 0))))))) + (p1 + 256 * (p2 + 256 * (p3 + 256 * (p4 + 256 * (p5 + 256 * (p6 + 256 * (p7 + 256 * 0))))))) = ((p0 + p1) + 256 * (p1 + p2)) + 2 ^ 16 * ((p2 + p3) + 256 * (p3 + p4) + 65536 * (p4 + p5) + 16777216 * (p5 + p6) + 4294967296 * (p6 + p7) + 1099511627776 * p7) := by omega
theorem ln4 (p0 p1 p2 p3 p4 p5 p6 p7 : Nat) : ((p0 + p1) + 256 * (p1 + p2)) + 2 ^ 16 * ((p2 + p3) + 256 * (p3 + p4) + 65536 * (p4 + p5) + 16777216 * (p5 + p6) + 4294967296 * (p6 + p7) + 1099511627776 * p7) + ((p2 + p3) + 256 * (p3 + p4) + 65536 * (p4 + p5) + 16777216 * (p5 + p6) + 4294967296 * (p6 + p7) + 1099511627776 * p7) = ((p0 + p1 + p2 + p3) + 256 * (p1 + p2 + p3 + p4) + 65536 * (p2 + p3 + p4 + p5) + 16777216 * (p3 + p4 + p5 + p6)) + 2 ^ 32 * ((p4 + p5 + p6 + p7) + 256 * (p5 + p6 + p7) + 65536 * (p6 + p7) + 16777216 * p7) := by omega
theorem ln6 (p0 p1 p2 p3 p4 p5 p6 p7 : Nat) : ((p0 + p1 + p2 + p3) + 256 * (p1 + p2 + p3 + p4) + 65536 * (p2 + p3 + p4 + p5) + 16777216 * (p3 + p4 + p5 + p6)) + 2 ^ 32 * ((p4 + p5 + p6 + p7) + 256 * (p5 + p6 + p7) + 65536 * (p6 + p7) + 16777216 * p7) + ((p4 + p5 + p6 + p7) + 256 * (p5 + p6 + p7) + 65536 * (p6 + p7) + 16777216 * p7) = (p0 + p1 + p2 + p3 + p4 + p5 + p6 + p7) + 128 * (2 * (p1 + p2 + p3 + p4 + p5 + p6 + p7) + 512 * (p2 + p3 + p4 + p5 + p6 + p7) + 131072 * (p3 + p4 + p5 + p6 + p7) + 33554432 * ((p4 + p5 + p6 + p7) + 256 * (p5 + p6 + p7) + 65536 * (p6 + p7) + 16777216 * p7)) := by omega
theorem lnb {p0 p1 p2 p3 p4 p5 p6 p7 : Nat} (a0 : p0 ≤ 8) (a1 : p1 ≤ 8) (a2 : p2 ≤ 8) (a3 : p3 ≤ 8) (a4 : p4 ≤ 8) (a5 : p5 ≤ 8) (a6 : p6 ≤ 8) (a7 : p7 ≤ 8) : ((p0 + p1 + p2 + p3) + 256 * (p1 + p2 + p3 + p4) + 65536 * (p2 + p3 + p4 + p5) + 16777216 * (p3 + p4 + p5 + p6)) + 2 ^ 32 * ((p4 + p5 + p6 + p7) + 256 * (p5 + p6 + p7) + 65536 * (p6 + p7) + 16777216 * p7) + ((p4 + p5 + p6 + p7) + 256 * (p5 + p6 + p7) + 65536 * (p6 + p7) + 16777216 * p7) < 18446744073709551616 := by omega
theorem fld8 {p0 p1 p2 p3 p4 p5 p6 p7 : Nat} (a0 : p0 ≤ 8) (a1 : p1 ≤ 8) (a2 : p2 ≤ 8) (a3 : p3 ≤ 8) (a4 : p4 ≤ 8) (a5 : p5 ≤ 8) (a6 : p6 ≤ 8) (a7 : p7 ≤ 8) {X Y Z : Nat} (hX : X = p0 + 256 * (p1 + 256 * (p2 + 256 * (p3 + 256 * (p4 + 256 * (p5 + 256 * (p6 + 256 * (p7 + 256 * 0)))))))) (hY : Y = X + X >>> 8) (hZ : Z = Y + Y >>> 16) : (Z + Z >>> 32) % 128 = p0 + p1 + p2 + p3 + p4 + p5 + p6 + p7 ∧ Z + Z >>> 32 < 18446744073709551616 ∧ Z < 18446744073709551616 ∧ Y < 18446744073709551616 ∧ X < 18446744073709551616 := by
  have e1 : X >>> 8 = p1 + 256 * (p2 + 256 * (p3 + 256 * (p4 + 256 * (p5 + 256 * (p6 + 256 * (p7 + 256 * 0)))))) := by
    rw [hX]
    exact shq (k := 8) (Nat.lt_of_le_of_lt a0 (by decide))
  have lX : X ≤ Y := by rw [hY]; exact Nat.le_add_right _ _
  have lY : Y ≤ Z := by rw [hZ]; exact Nat.le_add_right _ _
  rw [e1, hX, ln2] at hY
  have e3 : Y >>> 16 = (p2 + p3) + 256 * (p3 + p4) + 65536 * (p4 + p5) + 16777216 * (p5 + p6) + 4294967296 * (p6 + p7) + 1099511627776 * p7 := by
    rw [hY]
    exact shq (by clear hX hY hZ e1 lX lY; omega)
  rw [e3, hY, ln4] at hZ
  have e5 : Z >>> 32 = (p4 + p5 + p6 + p7) + 256 * (p5 + p6 + p7) + 65536 * (p6 + p7) + 16777216 * p7 := by
    rw [hZ]
    exact shq (by clear hX hY hZ e1 e3 lX lY; omega)
  have hb : Z + Z >>> 32 < 18446744073709551616 := by
    rw [e5, hZ]
    exact lnb a0 a1 a2 a3 a4 a5 a6 a7
  have lZ : Z ≤ Z + Z >>> 32 := Nat.le_add_right _ _
  refine ⟨?_, hb, Nat.lt_of_le_of_lt lZ hb, Nat.lt_of_le_of_lt (Nat.le_trans lY lZ) hb, Nat.lt_of_le_of_lt (Nat.le_trans lX (Nat.le_trans lY lZ)) hb⟩
  rw [e5, hZ, ln6, Nat.add_mul_mod_self_left]
  exact Nat.mod_eq_of_lt (by clear hX hY hZ e1 e3 e5 lX lY lZ hb; omega)
theorem pop32 {x X Y : Nat} (h : x < 4294967296) (hX : X = q3 4 (q2 4 (q1 4 x))) (hY : Y = X + X >>> 8) : (Y + Y >>> 16) % 64 = cntN (fun k => x.testBit k) 32 ∧ Y + Y >>> 16 < 4294967296 ∧ Y < 4294967296 ∧ X < 4294967296 := by
  rw [q123 4 x 0 (by omega) x (by omega) rfl] at hX
  have c8 : ∀ X : Nat → Bool, cntN X 8 ≤ 8 := fun X => cntN_le X 8
  have e : cntN (fun k => x.testBit k) 32 = cntN (fun k => x.testBit (8 * (0 - 0) + k)) 8 + cntN (fun k => x.testBit (8 * (0 + 1 - 0) + k)) 8 + cntN (fun k => x.testBit (8 * (0 + 1 + 1 - 0) + k)) 8 + cntN (fun k => x.testBit (8 * (0 + 1 + 1 + 1 - 0) + k)) 8 := by
    rw [show (32 : Nat) = 8 + 8 + 8 + 8 from rfl, cntN_add, cntN_add, cntN_add]
    simp only [Nat.sub_self, Nat.mul_zero, Nat.zero_add]
  rw [e]
  exact fld4 (c8 _) (c8 _) (c8 _) (c8 _) hX hY
theorem pop64 {x X Y Z : Nat} (h : x < 18446744073709551616) (hX : X = q3 8 (q2 8 (q1 8 x))) (hY : Y = X + X >>> 8) (hZ : Z = Y + Y >>> 16) : (Z + Z >>> 32) % 128 = cntN (fun k => x.testBit k) 64 ∧ Z + Z >>> 32 < 18446744073709551616 ∧ Z < 18446744073709551616 ∧ Y < 18446744073709551616 ∧ X < 18446744073709551616 := by
  rw [q123 8 x 0 (by omega) x (by omega) rfl] at hX
  have c8 : ∀ X : Nat → Bool, cntN X 8 ≤ 8 := fun X => cntN_le X 8
  have e : cntN (fun k => x.testBit k) 64 = cntN (fun k => x.testBit (8 * (0 - 0) + k)) 8 + cntN (fun k => x.testBit (8 * (0 + 1 - 0) + k)) 8 + cntN (fun k => x.testBit (8 * (0 + 1 + 1 - 0) + k)) 8 + cntN (fun k => x.testBit (8 * (0 + 1 + 1 + 1 - 0) + k)) 8 + cntN (fun k => x.testBit (8 * (0 + 1 + 1 + 1 + 1 - 0) + k)) 8 + cntN (fun k => x.testBit (8 * (0 + 1 + 1 + 1 + 1 + 1 - 0) + k)) 8 + cntN (fun k => x.testBit (8 * (0 + 1 + 1 + 1 + 1 + 1 + 1 - 0) + k)) 8 + cntN (fun k => x.testBit (8 * (0 + 1 + 1 + 1 + 1 + 1 + 1 + 1 - 0) + k)) 8 := by
    rw [show (64 : Nat) = 8 + 8 + 8 + 8 + 8 + 8 + 8 + 8 from rfl, cntN_add, cntN_add, cntN_add, cntN_add, cntN_add, cntN_add, cntN_add]
    simp only [Nat.sub_self, Nat.mul_zero, Nat.zero_add]
  rw [e]
  exact fld8 (c8 _) (c8 _) (c8 _) (c8 _) (c8 _) (c8 _) (c8 _) (c8 _) hX hY hZ
