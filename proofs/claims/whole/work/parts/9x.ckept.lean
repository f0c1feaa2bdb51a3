/-! What the class keeps of bodies: their keys -/
def li (n : Nat) : Int64 := Int64.ofNat n
theorem li_inj {a b : Nat} (ha : a < 9223372036854775808) (hb : b < 9223372036854775808) (h : li a = li b) : a = b := by
  have := congrArg Int64.toNatClampNeg h
  rwa [show (li a).toNatClampNeg = a from Int64.toNatClampNeg_ofNat_of_lt ha, show (li b).toNatClampNeg = b from Int64.toNatClampNeg_ofNat_of_lt hb] at this
theorem ni_long {c : Nat} (h : c < 2147483648) : Int32.toInt64 (ni c) = li c := Int32.toInt64_ofNat' (by
  have : Int32.maxValue.toInt = 2147483647 := by decide
  omega)
theorem li_sh7 {a s : Nat} (ha : a < 72057594037927936) (hs : s < 128) : (li a <<< (Int32.toInt64 7 &&& 63)) ||| li s = li (128 * a + s) := by
  rw [show (Int32.toInt64 7 &&& 63) = 7 from by decide, ← Int64.toBitVec_inj]
  apply BitVec.eq_of_toNat_eq
  have e1 : ((li a <<< (7 : Int64)) ||| li s).toBitVec = (BitVec.ofNat 64 a <<< 7) ||| BitVec.ofNat 64 s := by
    rw [Int64.toBitVec_or]
    congr 1
  rw [e1]
  show _ = (BitVec.ofNat 64 (128 * a + s)).toNat
  rw [BitVec.toNat_or, BitVec.toNat_shiftLeft, BitVec.toNat_ofNat, BitVec.toNat_ofNat, BitVec.toNat_ofNat, Nat.mod_eq_of_lt (a := a) (by omega), Nat.mod_eq_of_lt (a := s) (by omega), Nat.mod_eq_of_lt (a := 128 * a + s) (by omega), Nat.shiftLeft_eq, Nat.mod_eq_of_lt (by omega)]
  have := Nat.shiftLeft_add_eq_or_of_lt (b := s) (i := 7) (by omega) a
  rw [Nat.shiftLeft_eq] at this
  rw [← this]
  omega
theorem li_sh8 {a s : Nat} (ha : a < 36028797018963968) (hs : s < 256) : (li a <<< (Int32.toInt64 8 &&& 63)) ||| li s = li (256 * a + s) := by
  rw [show (Int32.toInt64 8 &&& 63) = 8 from by decide, ← Int64.toBitVec_inj]
  apply BitVec.eq_of_toNat_eq
  have e1 : ((li a <<< (8 : Int64)) ||| li s).toBitVec = (BitVec.ofNat 64 a <<< 8) ||| BitVec.ofNat 64 s := by
    rw [Int64.toBitVec_or]
    congr 1
  rw [e1]
  show _ = (BitVec.ofNat 64 (256 * a + s)).toNat
  rw [BitVec.toNat_or, BitVec.toNat_shiftLeft, BitVec.toNat_ofNat, BitVec.toNat_ofNat, BitVec.toNat_ofNat, Nat.mod_eq_of_lt (a := a) (by omega), Nat.mod_eq_of_lt (a := s) (by omega), Nat.mod_eq_of_lt (a := 256 * a + s) (by omega), Nat.shiftLeft_eq, Nat.mod_eq_of_lt (by omega)]
  have := Nat.shiftLeft_add_eq_or_of_lt (b := s) (i := 8) (by omega) a
  rw [Nat.shiftLeft_eq] at this
  rw [← this]
  omega
theorem li_or2 {a n l : Nat} (ha : a < 36028797018963968) (hn : n ≤ 24) (hl : l < 4) : ((li a <<< (Int32.toInt64 8 &&& 63)) ||| (Int32.toInt64 (ni n <<< ((2 : Int32) &&& 31)))) ||| (Int32.toInt64 (ni l)) = li (256 * a + (4 * n + l)) := by
  have key : (List.range 25).all (fun n => (List.range 4).all (fun l => (Int32.toInt64 (ni n <<< ((2 : Int32) &&& 31)) ||| Int32.toInt64 (ni l)) == li (4 * n + l))) = true := by decide +kernel
  have k2 := eq_of_beq (List.all_eq_true.mp (List.all_eq_true.mp key n (List.mem_range.mpr (by omega))) l (List.mem_range.mpr hl))
  rw [Int64.or_assoc, k2]
  exact li_sh8 ha (by omega)
/-- signs packed -/
def pk9 (g : Nat → Int32) (a : Nat) : Nat → Nat
  | 0 => 0
  | m + 1 => 128 * pk9 g a m + (g (a + m)).toNatClampNeg
def pkT (T : TX) (a : Nat) : Nat := pk9 T.2 a (min 9 (T.1 - a))
theorem txOK.lt {T : TX} (hT : txOK T) {i : Nat} (h : i < T.1) : T.2 i = ni (T.2 i).toNatClampNeg ∧ (T.2 i).toNatClampNeg < 128 := by
  obtain ⟨c, h1, h2, h3⟩ := isSg_ni (hT.2 i h)
  rw [h3, ni_nat (by omega)]
  exact ⟨rfl, by omega⟩
theorem pk9_lt {T : TX} (hT : txOK T) {a : Nat} : ∀ m, a + m ≤ T.1 → pk9 T.2 a m < 128 ^ m
  | 0, _ => by show 0 < 1; omega
  | m + 1, h => by
    have a1 := pk9_lt hT (a := a) m (by omega)
    have a2 := (hT.lt (i := a + m) (by omega)).2
    show 128 * pk9 T.2 a m + (T.2 (a + m)).toNatClampNeg < 128 ^ (m + 1)
    rw [Nat.pow_succ]
    omega
theorem pk9_inj {T U : TX} (hT : txOK T) (hU : txOK U) {a : Nat} : ∀ m, a + m ≤ T.1 → a + m ≤ U.1 → pk9 T.2 a m = pk9 U.2 a m → ∀ i, i < m → T.2 (a + i) = U.2 (a + i)
  | 0, _, _, _, i, h => absurd h (by omega)
  | m + 1, h1, h2, e, i, h => by
    have a1 := hT.lt (i := a + m) (by omega)
    have a2 := hU.lt (i := a + m) (by omega)
    have e' : 128 * pk9 T.2 a m + (T.2 (a + m)).toNatClampNeg = 128 * pk9 U.2 a m + (U.2 (a + m)).toNatClampNeg := e
    by_cases c : i = m
    · subst c
      rw [a1.1, a2.1]
      congr 1
      omega
    · exact pk9_inj hT hU m (by omega) (by omega) (by omega) i (by omega)
theorem p128 {m : Nat} (h : m ≤ 9) : 128 ^ m ≤ 9223372036854775808 := by
  have := Nat.pow_le_pow_right (n := 128) (by omega) h
  have e : 128 ^ 9 = 9223372036854775808 := by decide
  omega
theorem pkT_lt {T : TX} (hT : txOK T) {a : Nat} (h : a ≤ T.1) : pkT T a < 9223372036854775808 := by
  have := pk9_lt hT (a := a) (min 9 (T.1 - a)) (by omega)
  have := p128 (m := min 9 (T.1 - a)) (by omega)
  unfold pkT
  omega
theorem pkT_0 {T : TX} {a : Nat} (h : T.1 ≤ a) : pkT T a = 0 := by
  unfold pkT
  rw [show min 9 (T.1 - a) = 0 by omega]
  rfl
theorem pkT_lt' {T : TX} (hT : txOK T) {a : Nat} : pkT T a < 9223372036854775808 := by
  by_cases h : a ≤ T.1
  · exact pkT_lt hT h
  · rw [pkT_0 (by omega)]; omega
theorem pkT_18 {T : TX} (hT : txOK T) : pkT T 18 < 4398046511104 := by
  have h24 := hT.1
  by_cases h : 18 ≤ T.1
  · have a1 := pk9_lt hT (a := 18) (min 9 (T.1 - 18)) (by omega)
    have a2 := Nat.pow_le_pow_right (n := 128) (by omega) (show min 9 (T.1 - 18) ≤ 6 by omega)
    have e : 128 ^ 6 = 4398046511104 := by decide
    unfold pkT
    omega
  · rw [pkT_0 (by omega)]; omega
/-- texts with the same key are the same -/
theorem pk_inj {T U : TX} (hT : txOK T) (hU : txOK U) {l m : Nat} (hl : l < 4) (hm : m < 4) (h1 : li (pkT T 0) = li (pkT U 0)) (h2 : li (pkT T 9) = li (pkT U 9)) (h3 : li (256 * pkT T 18 + (4 * T.1 + l)) = li (256 * pkT U 18 + (4 * U.1 + m))) : l = m ∧ T.1 = U.1 ∧ ∀ i, i < T.1 → T.2 i = U.2 i := by
  have t24 := hT.1
  have u24 := hU.1
  have t18 := pkT_18 hT
  have u18 := pkT_18 hU
  have e3 := li_inj (by omega) (by omega) h3
  have e1 := li_inj (pkT_lt' hT) (pkT_lt' hU) h1
  have e2 := li_inj (pkT_lt' hT) (pkT_lt' hU) h2
  have en : T.1 = U.1 := by omega
  have e18 : pkT T 18 = pkT U 18 := by omega
  refine ⟨by omega, en, fun i hi => ?_⟩
  unfold pkT at e1 e2 e18
  rw [← en] at e1 e2 e18
  by_cases c1 : i < 9
  · have := pk9_inj hT hU (a := 0) _ (by omega) (by omega) e1 i (by omega)
    rwa [Nat.zero_add] at this
  · by_cases c2 : i < 18
    · have := pk9_inj hT hU (a := 9) _ (by omega) (by omega) e2 (i - 9) (by omega)
      rwa [show 9 + (i - 9) = i by omega] at this
    · have := pk9_inj hT hU (a := 18) _ (by omega) (by omega) e18 (i - 18) (by omega)
      rwa [show 18 + (i - 18) = i by omega] at this
theorem and255 (x : Int32) : ∃ c, c < 256 ∧ x &&& 255 = ni c := by
  refine ⟨(x.toBitVec &&& 255#32).toNat, ?_, ?_⟩
  · rw [BitVec.toNat_and]
    have := Nat.and_le_right (n := x.toBitVec.toNat) (m := (255#32 : BitVec 32).toNat)
    have e : (255#32 : BitVec 32).toNat = 255 := by decide
    omega
  · rw [← Int32.toBitVec_inj, Int32.toBitVec_and]
    show _ = BitVec.ofNat 32 _
    rw [BitVec.ofNat_toNat]
    simp
def cKe (I : am_I) (J : am_J) (w : Nat → Int32) (c : Nat) : Prop := I 119 c = -1 ∨ ∃ l B, 1 ≤ l ∧ l ≤ 3 ∧ txOK B ∧ J 118 (3 * c) = li (pkT B 0) ∧ J 118 (3 * c + 1) = li (pkT B 9) ∧ J 118 (3 * c + 2) = li (256 * pkT B 18 + (4 * B.1 + l)) ∧ bts (I 119 c) (fun s => s < 8 ∧ 0 < HHx w (3 - l) B s 0 B.1)
/-- what is kept of bodies is right -/
def cKp (I : am_I) (J : am_J) (w : Nat → Int32) : Prop := ∀ c, c < 256 → cKe I J w c
theorem cKp.of {I I' : am_I} {J J' : am_J} {w : Nat → Int32} (h : cKp I J w) (f1 : ∀ k, I' 119 k = I 119 k) (f2 : J' 118 = J 118) : cKp I' J' w := by
  intro c hc
  unfold cKe
  rw [f1, f2]
  exact h c hc
section KEP
variable {d x : Nat} {P : am_O → Prop} {I : am_I} {J : am_J} {Pf : am_R} {T : TX} {w : Nat → Int32}
theorem sc_packed (hp : am_PF Pf) (hx : am_SH[x]? = some (.inl 9)) (hT : cTx x I T) (hTo : txOK T) {a : Nat} (ha : a < 100) (kk : P (.inl (some (.long (li (pkT T a)))), (am_SH, I, J, Pf), 0, 0)) : am_mth (d + 1) 6 [.ref x, .int (ni a)] (am_SH, I, J, Pf) P := by
  have h24 := hT.2.1
  have LP : ∀ (m c : Nat) (l3 : Option Value), min 9 (T.1 - a) - c = m → c ≤ min 9 (T.1 - a) → am_go none d 6 (5, [some (.ref x), some (.int (ni a)), some (.long (li (pk9 T.2 a c))), l3, some (.int (ni (a + c)))], [], (am_SH, I, J, Pf), 0, 0) P := by
    intro m
    induction m with
    | zero =>
      intro c l3 hm hc
      have : c = min 9 (T.1 - a) := by omega
      subst this
      refine v6_5 hp hx ?_
      rw [show (9 : Int32) = ni 9 from rfl, ni_add, hT.1]
      by_cases c1 : a + 9 ≤ a + min 9 (T.1 - a)
      · rw [if_pos ((ni_le (by omega) (by omega)).mpr c1)]; exact kk
      · rw [if_neg (fun z => c1 ((ni_le (by omega) (by omega)).mp z)), if_pos ((ni_le (by omega) (by omega)).mpr (by omega))]; exact kk
    | succ m ih =>
      intro c l3 hm hc
      have hlt := hTo.lt (i := a + c) (by omega)
      have hb := pk9_lt hTo (a := a) c (by omega)
      have hb2 := Nat.pow_le_pow_right (n := 128) (by omega) (show c ≤ 8 by omega)
      have e8 : 128 ^ 8 = 72057594037927936 := by decide
      refine v6_5 hp hx ?_
      rw [show (9 : Int32) = ni 9 from rfl, ni_add, hT.1, if_neg (fun z => absurd ((ni_le (by omega) (by omega)).mp z) (by omega)), if_neg (fun z => absurd ((ni_le (by omega) (by omega)).mp z) (by omega)), show (ni (a + c)).toNatClampNeg = a + c from ni_nat (by omega), hT.2.2 (a + c) (by omega), hlt.1, ni_long (by omega), li_sh7 (by omega) hlt.2, ni_p1]
      refine ⟨ni_in (by omega) (by omega), ih (c + 1) _ (by omega) (by omega)⟩
  refine am_mth_of rfl rfl (v6_0 hp hx ?_)
  exact LP _ 0 _ rfl (Nat.zero_le _)
theorem sc_slot (hp : am_PF Pf) {a b c : Int64} (kk : ∀ s, s < 256 → P (.inl (some (.int (ni s))), (am_SH, I, J, Pf), 0, 0)) : am_mth (d + 1) 7 [.long a, .long b, .long c] (am_SH, I, J, Pf) P := by
  refine am_mth_of rfl rfl (v7_0 hp rfl ?_)
  obtain ⟨s, h1, h2⟩ := and255 (Int64.toInt32 (UInt64.toInt64 (Int64.toUInt64 (((((a * 31) + b) * 31) + c) * (-7046029254386353131)) >>> (Int64.toUInt64 (Int32.toInt64 40) &&& Int64.toUInt64 63))))
  rw [h2]
  exact kk s h1
theorem sc_keep (hp : am_PF Pf) (hK : cKp I J w) {l : Nat} (hl : 1 ≤ l ∧ l ≤ 3) (hTo : txOK T) {v : Int32} (hv : bts v (fun s => s < 8 ∧ 0 < HHx w (3 - l) T s 0 T.1))
    (kk : ∀ I' J', cKp I' J' w → (∀ o k, o ≠ 119 → ¬ (o = 112 ∧ k = 9) → I' o k = I o k) → (∀ o, o ≠ 118 → J' o = J o) → P (.inl none, (am_SH, I', J', Pf), 0, 0)) : am_mth (d + 2) 8 [.ref 112, .long (li (pkT T 0)), .long (li (pkT T 9)), .long (li (256 * pkT T 18 + (4 * T.1 + l))), .int v] (am_SH, I, J, Pf) P := by
  have LP : ∀ (m k s : Nat) (I1 : am_I) (l2 l4 l6 : Option Value), 256 - k = m → k ≤ 256 → s < 256 → cKp I1 J w → (∀ o k, o ≠ 119 → ¬ (o = 112 ∧ k = 9) → I1 o k = I o k) → am_go none (d + 1) 8 (35, [some (.ref 112), some (.long (li (pkT T 0))), l2, some (.long (li (pkT T 9))), l4, some (.long (li (256 * pkT T 18 + (4 * T.1 + l)))), l6, some (.int v), some (.int (ni s)), some (.int (ni k))], [], (am_SH, I1, J, Pf), 0, 0) P := by
    intro m
    have FIN : ∀ (s : Nat) (I1 : am_I) (l2 l4 l6 l9 : Option Value), s < 256 → cKp I1 J w → (∀ o k, o ≠ 119 → ¬ (o = 112 ∧ k = 9) → I1 o k = I o k) → am_go none (d + 1) 8 (70, [some (.ref 112), some (.long (li (pkT T 0))), l2, some (.long (li (pkT T 9))), l4, some (.long (li (256 * pkT T 18 + (4 * T.1 + l)))), l6, some (.int v), some (.int (ni s)), l9], [], (am_SH, I1, J, Pf), 0, 0) P := by
      intro s I1 l2 l4 l6 l9 hs hK1 hf
      refine v8_70 hp ?_
      rw [show (3 : Int32) = ni 3 from rfl, ni_mul, ni_p1, ni_p2, show (ni s).toNatClampNeg = s from ni_nat (by omega), show (ni (s * 3)).toNatClampNeg = 3 * s by rw [ni_nat (by omega)]; omega, show (ni (s * 3 + 1)).toNatClampNeg = 3 * s + 1 by rw [ni_nat (by omega)]; omega, show (ni (s * 3 + 2)).toNatClampNeg = 3 * s + 2 by rw [ni_nat (by omega)]; omega]
      refine ⟨ni_in (by omega) (by omega), ni_in (by omega) (by omega), ni_in (by omega) (by omega), ni_in (by omega) (by omega), kk _ _ (fun c hc => ?_) (fun o k e1 e2 => by rw [am_u_nq (by omega), am_u_nq (by omega)]; exact hf o k e1 e2) (fun o e => by rw [am_u_o (by omega), am_u_o (by omega), am_u_o (by omega)])⟩
      by_cases es : c = s
      · subst es
        refine Or.inr ⟨l, T, hl.1, hl.2, hTo, ?_, ?_, ?_, ?_⟩
        · rw [am_u_nq (by omega), am_u_nq (by omega), am_u_same]
        · rw [am_u_nq (by omega), am_u_same]
        · rw [am_u_same]
        · rw [am_u_nq (by omega), am_u_same]; exact hv
      · have := hK1 c hc
        unfold cKe at *
        rw [am_u_nq (by omega), am_u_nq (by omega), am_u_nq (by omega), am_u_nq (by omega), am_u_nq (by omega), am_u_nq (by omega), am_u_nq (by omega), am_u_nq (by omega), am_u_nq (by omega), am_u_nq (by omega), am_u_nq (by omega)]
        exact this
    induction m with
    | zero =>
      intro k s I1 l2 l4 l6 hm hk hs hK1 hf
      have : k = 256 := by omega
      subst this
      refine v8_35 hp ?_
      rw [if_pos ((gle 256 (by omega) (by omega)).mpr (by omega))]
      exact FIN s I1 _ _ _ _ hs hK1 hf
    | succ m ih =>
      intro k s I1 l2 l4 l6 hm hk hs hK1 hf
      refine v8_35 hp ?_
      rw [if_neg (fun z => absurd ((gle 256 (by omega) (by omega)).mp z) (by omega)), ni_p1 k]
      refine ⟨ni_in (by omega) (by omega), ?_⟩
      split
      · exact FIN s I1 _ _ _ _ hs hK1 hf
      · obtain ⟨s', h1, h2⟩ := and255 (ni s + 1)
        rw [h2]
        exact ih (k + 1) s' I1 _ _ _ (by omega) (by omega) h1 hK1 hf
  have ST : ∀ (I1 : am_I) (l2 l4 l6 l8 l9 : Option Value), cKp I1 J w → (∀ o k, o ≠ 119 → ¬ (o = 112 ∧ k = 9) → I1 o k = I o k) → am_go none (d + 1) 8 (23, [some (.ref 112), some (.long (li (pkT T 0))), l2, some (.long (li (pkT T 9))), l4, some (.long (li (256 * pkT T 18 + (4 * T.1 + l)))), l6, some (.int v), l8, l9], [], (am_SH, I1, J, Pf), 0, 0) P := by
    intro I1 l2 l4 l6 l8 l9 hK1 hf
    refine v8_23 hp (sc_slot (d := d) hp (fun s hs => am_back (v8_30 hp ?_)))
    rw [show (0 : Int32) = ni 0 from rfl]
    exact LP _ 0 s I1 _ _ _ rfl (by omega) hs hK1 hf
  refine am_mth_of rfl rfl (v8_0 hp ?_)
  split
  · exact ST I _ _ _ _ _ hK (fun _ _ _ _ => rfl)
  · refine sp_fill (d := d) (L := 256) hp rfl (by omega) (am_back (v8_18 hp (ST _ _ _ _ _ _ (fun c hc => Or.inl ?_) (fun o k e1 e2 => ?_))))
    · rw [am_u_nq (by omega)]
      exact if_pos ⟨rfl, Nat.zero_le _, hc⟩
    · rw [am_u_nq (by omega)]
      exact if_neg (fun z => e1 z.1)
end KEP
