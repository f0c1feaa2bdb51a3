/-! Small ints -/
/-- a small number as an int -/
def ni (n : Nat) : Int32 := Int32.ofNat n
theorem ni_add (a b : Nat) : ni a + ni b = ni (a + b) := (Int32.ofNat_add a b).symm
theorem ni_mul (a b : Nat) : ni a * ni b = ni (a * b) := (Int32.ofNat_mul a b).symm
theorem ni_sub {a b : Nat} (h : b ≤ a) : ni a - ni b = ni (a - b) := (Int32.ofNat_sub a b h).symm
theorem ni_nat {a : Nat} (h : a < 2147483648) : (ni a).toNatClampNeg = a := Int32.toNatClampNeg_ofNat_of_lt h
theorem ni_int {a : Nat} (h : a < 2147483648) : (ni a).toInt = a := Int32.toInt_ofNat_of_lt h
theorem ni_lt {a b : Nat} (ha : a < 2147483648) (hb : b < 2147483648) : (ni a < ni b) ↔ a < b := Int32.ofNat_lt_iff_lt ha hb
theorem ni_le {a b : Nat} (ha : a < 2147483648) (hb : b < 2147483648) : (ni a ≤ ni b) ↔ a ≤ b := Int32.ofNat_le_iff_le ha hb
theorem ni_inj {a b : Nat} (ha : a < 2147483648) (hb : b < 2147483648) : (ni a = ni b) ↔ a = b := by
  constructor
  · intro h
    have := congrArg Int32.toNatClampNeg h
    rwa [ni_nat ha, ni_nat hb] at this
  · rintro rfl; rfl
theorem ni_0 : (0 : Int32) = ni 0 := rfl
theorem ni_1 : (1 : Int32) = ni 1 := rfl
theorem ni_nonneg {a : Nat} (h : a < 2147483648) : ¬ (ni a < 0) := by
  rw [ni_0, ni_lt h (by omega)]
  omega
theorem ni_in {a L : Nat} (h : a < 2147483648) (hL : a < L) : am_in (ni a) L = true := by
  unfold am_in
  rw [ni_nat h]
  refine decide_eq_true ?_
  rintro (h1 | h1)
  · exact ni_nonneg h h1
  · omega
theorem ni_of {x : Int32} (h : 0 ≤ x) : ni x.toNatClampNeg = x := Int32.ofNat_toNatClampNeg x h
theorem ni_of' {x : Int32} (h : 0 ≤ x) : ∃ a : Nat, a < 2147483648 ∧ x = ni a := by
  refine ⟨x.toNatClampNeg, ?_, (ni_of h).symm⟩
  have h1 := Int32.toInt_lt x
  have h2 : x.toNatClampNeg = x.toInt.toNat := rfl
  omega
theorem ni_neg1 {a : Nat} (h : a < 2147483648) : ni a ≠ -1 := by
  intro e
  have h1 := congrArg Int32.toInt e
  rw [ni_int h] at h1
  have h2 : (-1 : Int32).toInt = -1 := by decide
  omega
theorem am_u_same {α : Type} {f : Nat → Nat → α} {o k : Nat} {v : α} : am_u f o k v o k = v := by simp [am_u]
theorem am_u_nq {α : Type} {f : Nat → Nat → α} {o k o' k' : Nat} {v : α} (h : ¬ (o' = o ∧ k' = k)) : am_u f o k v o' k' = f o' k' := by
  unfold am_u
  by_cases h1 : o' = o
  · subst h1
    by_cases h2 : k' = k
    · exact absurd ⟨rfl, h2⟩ h
    · simp [h2]
  · simp [h1]
theorem am_u_self {α : Type} {f : Nat → Nat → α} {o k : Nat} {v : α} (h : f o k = v) : am_u f o k v = f := by
  funext a b
  unfold am_u
  split
  · rename_i h1
    split
    · rename_i h2; rw [h1, h2, h]
    · rfl
  · rfl
theorem am_u_u {α : Type} {f : Nat → Nat → α} {o k : Nat} {v w : α} : am_u (am_u f o k v) o k w = am_u f o k w := by
  funext a b
  unfold am_u
  split
  · split <;> rfl
  · rfl
theorem am_u_o {α : Type} {f : Nat → Nat → α} {o k o' : Nat} {v : α} (h : o' ≠ o) : am_u f o k v o' = f o' := by
  funext b
  unfold am_u
  rw [if_neg h]
theorem am_u_sw {α : Type} {f : Nat → Nat → α} {o k o' k' : Nat} {v w : α} (h : ¬ (o' = o ∧ k' = k)) : am_u (am_u f o k v) o' k' w = am_u (am_u f o' k' w) o k v := by
  funext a b
  unfold am_u
  by_cases h1 : a = o
  · by_cases h2 : a = o'
    · subst h1; subst h2
      by_cases h3 : b = k
      · subst h3
        have : b ≠ k' := fun e => h ⟨rfl, e.symm⟩
        simp [this]
      · simp [h3]
    · have h3 : o ≠ o' := fun e => h2 (h1.trans e)
      simp [h1, h3]
  · simp [h1]
/-- a call that returns: what is to be shown behind it -/
theorem am_back {sc : Option (Nat × (Nat → Int32))} {d y pc k n k' n' : Nat} {ls : am_L} {st r : List Value} {I I' : am_I} {J J' : am_J} {Pf Pf' : am_R} {thr : Bool} {P : am_O → Prop} {v : Option Value} (h : am_go sc d y (pc + 3, ls, v.toList ++ r, (am_SH, I', J', Pf'), k + k', n + n') P) : am_af sc d y pc ls st r (am_SH, I, J, Pf) k n thr P (.inl v, (am_SH, I', J', Pf'), k', n') := by
  refine ⟨?_, h⟩
  show (Nat.beq am_SH.length am_SH.length || _) = true
  rw [Nat.beq_refl]
  rfl
