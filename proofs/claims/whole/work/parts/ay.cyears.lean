/-! Years: the model; the class's edits -/
def dS (z : Int32) : Int32 := z * 1103515245 + 12345
def dB (z : Int32) : Nat := ((z.toBitVec >>> 16) &&& 32767#32).toNat
def dV (z : Int32) (n : Nat) : Nat := dB z % n
theorem dB_lt (z : Int32) : dB z < 32768 := by
  unfold dB
  rw [BitVec.toNat_and]
  have := Nat.and_le_right (n := (z.toBitVec >>> 16).toNat) (m := (32767#32 : BitVec 32).toNat)
  have e : (32767#32 : BitVec 32).toNat = 32767 := by decide
  omega
theorem dV_lt (z : Int32) {n : Nat} (h : 1 ≤ n) : dV z n < n := Nat.mod_lt _ (by omega)
theorem ni_bv (b : BitVec 32) {x : Int32} (h : x.toBitVec = b) : x = ni b.toNat := by
  rw [← Int32.toBitVec_inj, h]
  show _ = BitVec.ofNat 32 _
  rw [BitVec.ofNat_toNat]
  simp
theorem cdB (z : Int32) : (UInt32.toInt32 (Int32.toUInt32 z >>> (Int32.toUInt32 16 &&& Int32.toUInt32 31))) &&& 32767 = ni (dB z) := by
  refine ni_bv _ ?_
  rw [Int32.toBitVec_and]
  congr 1
theorem rdB (z : Int32) : (z >>> ((16 : Int32) &&& 31)) &&& 32767 = ni (dB z) := by
  refine ni_bv _ ?_
  rw [Int32.toBitVec_and, Int32.toBitVec_shiftRight]
  have h2 : (((16 : Int32) &&& 31).toBitVec.smod 32).toNat = 16 := by decide +kernel
  have e1 : (z.toBitVec.sshiftRight (((16 : Int32) &&& 31).toBitVec.smod 32).toNat) &&& (32767 : Int32).toBitVec = (z.toBitVec >>> 16) &&& 32767#32 := by
    rw [h2]
    have em : ∀ i, i < 32 → (32767#32 : BitVec 32).getLsbD i = decide (i < 15) := by decide
    refine BitVec.eq_of_getLsbD_eq (fun i hi => ?_)
    have e2 : (32767 : Int32).toBitVec = 32767#32 := by decide
    rw [e2, BitVec.getLsbD_and, BitVec.getLsbD_and, em i hi]
    by_cases c : i < 15
    · rw [BitVec.getLsbD_sshiftRight, BitVec.getLsbD_ushiftRight, if_pos (by omega), decide_eq_false (show ¬ 32 ≤ i by omega)]
      rfl
    · rw [decide_eq_false c, Bool.and_false, Bool.and_false]
  exact e1
theorem ni_mod {a n : Nat} (ha : a < 2147483648) (hn : n < 2147483648) : ni a - ni a / ni n * ni n = ni (a % n) := by
  have e : ni a / ni n = ni (a / n) := (Int32.ofNat_div ha hn).symm
  have h := Nat.div_add_mod a n
  have h2 : a / n * n ≤ a := Nat.div_mul_le_self a n
  rw [e, ni_mul, ni_sub h2, show a - a / n * n = a % n by rw [Nat.mul_comm] at h2 ⊢; omega]
theorem cdr (z : Int32) {n : Nat} (hn : n < 1000) : ((UInt32.toInt32 (Int32.toUInt32 z >>> (Int32.toUInt32 16 &&& Int32.toUInt32 31))) &&& 32767) - ((UInt32.toInt32 (Int32.toUInt32 z >>> (Int32.toUInt32 16 &&& Int32.toUInt32 31))) &&& 32767) / ni n * ni n = ni (dV z n) := by
  have := dB_lt z
  rw [cdB, ni_mod (by omega) (by omega)]
  rfl
theorem cdr4 (z : Int32) : ((UInt32.toInt32 (Int32.toUInt32 z >>> (Int32.toUInt32 16 &&& Int32.toUInt32 31))) &&& 32767) - ((UInt32.toInt32 (Int32.toUInt32 z >>> (Int32.toUInt32 16 &&& Int32.toUInt32 31))) &&& 32767) / 4 * 4 = ni (dV z 4) := cdr z (n := 4) (by omega)
theorem cdr24 (z : Int32) : ((UInt32.toInt32 (Int32.toUInt32 z >>> (Int32.toUInt32 16 &&& Int32.toUInt32 31))) &&& 32767) - ((UInt32.toInt32 (Int32.toUInt32 z >>> (Int32.toUInt32 16 &&& Int32.toUInt32 31))) &&& 32767) / 24 * 24 = ni (dV z 24) := cdr z (n := 24) (by omega)
theorem cdr95 (z : Int32) : ((UInt32.toInt32 (Int32.toUInt32 z >>> (Int32.toUInt32 16 &&& Int32.toUInt32 31))) &&& 32767) - ((UInt32.toInt32 (Int32.toUInt32 z >>> (Int32.toUInt32 16 &&& Int32.toUInt32 31))) &&& 32767) / 95 * 95 = ni (dV z 95) := cdr z (n := 95) (by omega)
theorem rdr (z : Int32) {n : Nat} (hn : n < 1000) : ((z >>> ((16 : Int32) &&& 31)) &&& 32767) - ((z >>> ((16 : Int32) &&& 31)) &&& 32767) / ni n * ni n = ni (dV z n) := by
  have := dB_lt z
  rw [rdB, ni_mod (by omega) (by omega)]
  rfl
theorem rdr4 (z : Int32) : ((z >>> ((16 : Int32) &&& 31)) &&& 32767) - ((z >>> ((16 : Int32) &&& 31)) &&& 32767) / 4 * 4 = ni (dV z 4) := rdr z (n := 4) (by omega)
theorem rdr24 (z : Int32) : ((z >>> ((16 : Int32) &&& 31)) &&& 32767) - ((z >>> ((16 : Int32) &&& 31)) &&& 32767) / 24 * 24 = ni (dV z 24) := rdr z (n := 24) (by omega)
theorem rdr95 (z : Int32) : ((z >>> ((16 : Int32) &&& 31)) &&& 32767) - ((z >>> ((16 : Int32) &&& 31)) &&& 32767) / 95 * 95 = ni (dV z 95) := rdr z (n := 95) (by omega)
/-- one edit, the kind being drawn: whether it is done, the text, the seed -/
def yrD (T : TX) (how : Nat) (z : Int32) : Bool × TX × Int32 :=
  if how = 3 then (if dV (dS z) 24 < T.1 ∧ dV (dS (dS z)) 24 < T.1 ∧ T.2 (dV (dS z) 24) ≠ T.2 (dV (dS (dS z)) 24) then (true, txSwp T (dV (dS z) 24) (dV (dS (dS z)) 24), dS (dS z)) else (false, T, dS (dS z)))
  else if how = 2 then (if dV (dS z) (T.1 + 1) + 1 ≤ T.1 then (true, txCut T (dV (dS z) (T.1 + 1)) 1, dS z) else (false, T, dS z))
  else (if T.1 + 1 ≤ 24 then (true, txIns T (dV (dS z) (T.1 + 1)) 1 (fun _ => ni (32 + dV (dS (dS z)) 95)), dS (dS z)) else (false, T, dS (dS z)))
def yrE (T : TX) (z : Int32) : Bool × TX × Int32 := yrD T (dV (dS z) 4) (dS z)
theorem isSg_32 {v : Nat} (h : v < 95) : isSg (ni (32 + v)) = true := by
  have a1 : (32 : Int32) ≤ ni (32 + v) := (gle 32 (by omega) (by omega)).mpr (by omega)
  have a2 : ni (32 + v) ≤ (126 : Int32) := (lle 126 (by omega) (by omega)).mpr (by omega)
  exact decide_eq_true ⟨a1, a2⟩
theorem txOK.ins {T : TX} (h : txOK T) {p k : Nat} {s : Nat → Int32} (hp : p ≤ T.1) (hk : T.1 + k ≤ 24) (hs : ∀ i, i < k → isSg (s i) = true) : txOK (txIns T p k s) := by
  refine ⟨hk, fun i hi => ?_⟩
  have hi' : i < T.1 + k := hi
  show isSg (if i < p then T.2 i else if i < p + k then s (i - p) else T.2 (i - k)) = true
  split
  · exact h.2 i (by omega)
  · split
    · exact hs _ (by omega)
    · exact h.2 _ (by omega)
theorem txOK.cut {T : TX} (h : txOK T) {p k : Nat} (hp : p + k ≤ T.1) : txOK (txCut T p k) := by
  have h24 := h.1
  refine ⟨by show T.1 - k ≤ 24; omega, fun i hi => ?_⟩
  have hi' : i < T.1 - k := hi
  show isSg (if i < p then T.2 i else T.2 (i + k)) = true
  split
  · exact h.2 i (by omega)
  · exact h.2 _ (by omega)
theorem txOK.swp {T : TX} (h : txOK T) {i j : Nat} (hi : i < T.1) (hj : j < T.1) : txOK (txSwp T i j) := by
  refine ⟨h.1, fun a ha => ?_⟩
  have ha' : a < T.1 := ha
  show isSg (if a = j then T.2 i else if a = i then T.2 j else T.2 a) = true
  split
  · exact h.2 i hi
  · split
    · exact h.2 j hj
    · exact h.2 a ha'
theorem yrD_ok {T : TX} (h : txOK T) {how : Nat} {z : Int32} : txOK (yrD T how z).2.1 := by
  have h24 := h.1
  unfold yrD
  split
  · split
    · rename_i c; exact h.swp c.1 c.2.1
    · exact h
  · split
    · split
      · rename_i c; exact h.cut c
      · exact h
    · split
      · rename_i c
        have := dV_lt (dS z) (n := T.1 + 1) (by omega)
        exact h.ins (by omega) c (fun i _ => isSg_32 (dV_lt _ (by omega)))
      · exact h
/-- one more edit, by whatever an edit does: the text, the seed, how many were refused, how often it was of sort 0 -/
noncomputable def yrN (E : TX → Int32 → Bool × TX × Int32) (w : Nat → Int32) (s : TX × Int32 × Nat × Nat) : TX × Int32 × Nat × Nat := ((E s.1 s.2.1).2.1, (E s.1 s.2.1).2.2, s.2.2.1 + (if (E s.1 s.2.1).1 = true then 0 else 1), s.2.2.2 + (if 0 < HHx w 3 (E s.1 s.2.1).2.1 0 0 (E s.1 s.2.1).2.1.1 then 1 else 0))
noncomputable def yrS (E : TX → Int32 → Bool × TX × Int32) (w : Nat → Int32) (T : TX) (z : Int32) : Nat → TX × Int32 × Nat × Nat
  | 0 => (T, z, 0, 0)
  | n + 1 => yrN E w (yrS E w T z n)
section YRE
variable {E : TX → Int32 → Bool × TX × Int32}
theorem yrN_ok (hE : ∀ U z1, txOK U → txOK (E U z1).2.1) {w : Nat → Int32} {s : TX × Int32 × Nat × Nat} (h : txOK s.1) : txOK (yrN E w s).1 := hE _ _ h
theorem yrN_le {w : Nat → Int32} {s : TX × Int32 × Nat × Nat} {n : Nat} (h : s.2.2.1 ≤ n ∧ s.2.2.2 ≤ n) : (yrN E w s).2.2.1 ≤ n + 1 ∧ (yrN E w s).2.2.2 ≤ n + 1 := by
  unfold yrN
  dsimp only
  refine ⟨?_, ?_⟩
  · split <;> omega
  · split <;> omega
theorem yrS_ok (hE : ∀ U z1, txOK U → txOK (E U z1).2.1) {w : Nat → Int32} {T : TX} {z : Int32} (h : txOK T) : ∀ n, txOK (yrS E w T z n).1 := by
  intro n
  induction n with
  | zero => exact h
  | succ n ih =>
    rw [show yrS E w T z (n + 1) = yrN E w (yrS E w T z n) from rfl]
    exact yrN_ok hE ih
theorem yrS_le {w : Nat → Int32} {T : TX} {z : Int32} : ∀ n, (yrS E w T z n).2.2.1 ≤ n ∧ (yrS E w T z n).2.2.2 ≤ n := by
  intro n
  induction n with
  | zero => exact ⟨Nat.le_refl _, Nat.le_refl _⟩
  | succ n ih =>
    rw [show yrS E w T z (n + 1) = yrN E w (yrS E w T z n) from rfl]
    exact yrN_le ih
end YRE
section YRC
variable {P : am_O → Prop} {J : am_J} {Pf : am_R} {T : TX} {w : Nat → Int32} {r : Nat}
/-- what an edit changes -/
def cYf (I I' : am_I) : Prop := ∀ o k, ¬ (o = 0 ∧ k = 17) → ¬ (o = 140 ∧ k = 1) → o ≠ 141 → I' o k = I o k
theorem sc_edit (hp : am_PF Pf) {I : am_I} (hT : cTx 140 I T) {how : Nat} (h4 : how < 4) {d : Nat} (kk : ∀ I', cTx 140 I' (yrD T how (I 0 17)).2.1 → I' 0 17 = (yrD T how (I 0 17)).2.2 → cYf I I' → P (.inl (some (.int (b2 (yrD T how (I 0 17)).1))), (am_SH, I', J, Pf), 0, 0)) : am_mth (d + 4) 184 [.ref 0, .int (ni how)] (am_SH, I, J, Pf) P := by
  have h24 := hT.2.1
  generalize hz : I 0 17 = z at kk
  refine am_mth_of rfl rfl (v184_0 hp ?_)
  rw [hz, show z * 1103515245 + 12345 = dS z from rfl, show dS z * 1103515245 + 12345 = dS (dS z) from rfl]
  have hd : ∀ o k v, ¬ (o = 0 ∧ k = 17) → am_u I 0 17 v o k = I o k := fun o k v e => am_u_nq e
  have hTu : ∀ v, cTx 140 (am_u I 0 17 v) T := fun v => ⟨(hd _ _ _ (by omega)).trans hT.1, h24, fun i hi => (hd _ _ _ (by omega)).trans (hT.2.2 i hi)⟩
  by_cases e3 : how = 3
  · subst e3
    rw [if_pos (by decide), cdr24, cdr24, am_u_u]
    have h1 := dV_lt (dS z) (n := 24) (by omega)
    have h2 := dV_lt (dS (dS z)) (n := 24) (by omega)
    refine sc_swap (d := d + 2) hp rfl (hTu _) (show dV (dS z) 24 < 100 by omega) (show dV (dS (dS z)) 24 < 100 by omega) ?_
    unfold yrD at kk
    rw [if_pos rfl] at kk
    split
    · rename_i c
      rw [if_pos c] at kk
      intro I2 g1 g2
      refine am_back (v184_26 hp ⟨Or.inr rfl, kk I2 g1 ?_ (fun o k a1 a2 a3 => ?_)⟩)
      · rw [g2 _ _ (by omega) (by omega)]; exact am_u_same
      · rw [g2 _ _ (by omega) (by omega)]; exact hd _ _ _ a1
    · rename_i c
      rw [if_neg c] at kk
      refine am_back (v184_26 hp ⟨Or.inl rfl, kk _ (hTu _) am_u_same (fun o k a1 a2 a3 => hd _ _ _ a1)⟩)
  · rw [if_neg (fun z => e3 ((leq 3 (by omega) (by omega)).mp z)), hT.1, ni_p1, if_pos ((gle 1 (by omega) (by omega)).mpr (by omega)), cdr _ (show T.1 + 1 < 1000 by omega)]
    refine ⟨fun z => absurd ((leq 0 (by omega) (by omega)).mp z) (by omega), ?_⟩
    have h1 := dV_lt (dS z) (n := T.1 + 1) (by omega)
    unfold yrD at kk
    rw [if_neg e3] at kk
    by_cases e2 : how = 2
    · subst e2
      rw [if_pos rfl] at kk
      rw [if_pos (by decide)]
      refine sc_cut (d := d + 2) (k := 1) hp rfl (hTu _) (show dV (dS z) (T.1 + 1) < 100 by omega) (by omega) ?_
      by_cases c : dV (dS z) (T.1 + 1) + 1 ≤ T.1
      · rw [if_pos c] at kk
        rw [if_pos ⟨Nat.le_refl _, c⟩]
        intro I2 g1 g2
        refine am_back (v184_55 hp ⟨Or.inr rfl, kk I2 g1 ?_ (fun o k a1 a2 a3 => ?_)⟩)
        · rw [g2 _ _ (by omega) (by omega)]; exact am_u_same
        · rw [g2 _ _ (by omega) (by omega)]; exact hd _ _ _ a1
      · rw [if_neg c] at kk
        rw [if_neg (fun z => c z.2)]
        refine am_back (v184_55 hp ⟨Or.inl rfl, kk _ (hTu _) am_u_same (fun o k a1 a2 a3 => hd _ _ _ a1)⟩)
    · rw [if_neg e2] at kk
      rw [if_neg (fun z => e2 ((leq 2 (by omega) (by omega)).mp z)), cdr95, am_u_u, show (32 : Int32) + ni (dV (dS (dS z)) 95) = ni (32 + dV (dS (dS z)) 95) from ni_add 32 _]
      refine sc_type1 (d := d + 1) hp rfl (hTu _) (show dV (dS z) (T.1 + 1) < 100 by omega) ?_
      by_cases c : T.1 + 1 ≤ 24
      · rw [if_pos c] at kk
        rw [if_pos ⟨by omega, c⟩]
        intro I2 g1 g2
        refine am_back (v184_73 hp ⟨Or.inr rfl, kk I2 g1 ?_ (fun o k a1 a2 a3 => ?_)⟩)
        · rw [g2 _ _ (by omega) (by omega)]; exact am_u_same
        · rw [g2 _ _ (by omega) (by omega)]; exact hd _ _ _ a1
      · rw [if_neg c] at kk
        rw [if_neg (fun z => c z.2)]
        refine am_back (v184_73 hp ⟨Or.inl rfl, kk _ (hTu _) am_u_same (fun o k a1 a2 a3 => hd _ _ _ a1)⟩)
/-- what a year changes -/
def cZf (I I' : am_I) : Prop := ∀ o k, ¬ (o = 0 ∧ k = 17) → ¬ (112 ≤ o ∧ o ≤ 134) → ¬ (140 ≤ o ∧ o ≤ 144) → I' o k = I o k
theorem cFf.z {I I' : am_I} (h : cFf 140 0 I I') : cZf I I' := fun o k e1 e2 e3 => h o k (by omega) (by omega) (by omega) (by omega) (by omega) (by omega)
theorem cZf.trans {I I' I'' : am_I} (h : cZf I I') (g : cZf I' I'') : cZf I I'' := fun o k e1 e2 e3 => (g o k e1 e2 e3).trans (h o k e1 e2 e3)
theorem cYf.z {I I' : am_I} (h : cYf I I') : cZf I I' := fun o k e1 e2 e3 => h o k e1 (by omega) (by omega)
theorem sc_pass {E : TX → Int32 → Bool × TX × Int32} (hEk : ∀ U z1, txOK U → txOK (E U z1).2.1) (hE : ∀ U z1, yrD U (dV (dS z1) 4) (dS z1) = E U z1) (hp : am_PF Pf) (hr : r = 16 ∨ r = 55) (hF : cFn Pf r) (hG : WG w) (hs : sndW w) {I : am_I} (hQ : cQ r I J w T) {n : Nat} (hn : n ≤ 24) (c : Bool) (z : Int32) {D : Nat} (hD : 110 ≤ D) (kk : ∀ I' J', cTx 140 I' (yrS E w T z n).1 → cKp I' J' w → cZf I I' → cJf J J' → P (.inl (some (.int (ni (if c = true then (yrS E w T z n).2.2.2 else (yrS E w T z n).2.2.1)))), (am_SH, I', J', Pf), 0, 0)) : am_mth D 183 [.ref 0, .int z, .int (ni n), .int (b2 c)] (am_SH, I, J, Pf) P := by
  obtain ⟨D', rfl⟩ : ∃ D', D = D' + 6 := ⟨D - 6, by omega⟩
  obtain ⟨hR, hT, hTo, hK, -⟩ := hQ
  have LP : ∀ (m i : Nat) (I1 : am_I) (J1 : am_J) (l1 : Option Value), n - i = m → i ≤ n → cTx 140 I1 (yrS E w T z i).1 → I1 0 17 = (yrS E w T z i).2.1 → cKp I1 J1 w → cZf I I1 → cJf J J1 → ∀ f : Nat, (c = true → f = (yrS E w T z i).2.2.2) → am_go none (D' + 5) 183 (25, [some (.ref 0), l1, some (.int (ni n)), some (.int (b2 c)), some (.int (ni (yrS E w T z i).2.2.1)), some (.int (ni f)), some (.int (ni i))], [], (am_SH, I1, J1, Pf), 0, 0) P := by
    intro m
    induction m with
    | zero =>
      intro i I1 J1 l1 hm hi g1 g2 g3 g4 g5 f hf
      obtain rfl : i = n := by omega
      refine v183_25 hp ?_
      rw [if_pos ((ni_le (by omega) (by omega)).mpr (Nat.le_refl _))]
      have hkk := kk I1 J1 g1 g3 g4 g5
      cases c with
      | true =>
        rw [if_neg (by decide), hf rfl]
        exact hkk
      | false =>
        rw [if_pos (show b2 false = 0 from rfl)]
        exact hkk
    | succ m ih =>
      intro i I1 J1 l1 hm hi g1 g2 g3 g4 g5 f hf
      have hle := yrS_le (E := E) (w := w) (T := T) (z := z) i
      have hTi := yrS_ok hEk (w := w) (z := z) hTo i
      have nxt := fun I' J' l1 => ih (i + 1) I' J' l1 (by omega) (by omega)
      rw [show yrS E w T z (i + 1) = yrN E w (yrS E w T z i) from rfl] at nxt
      generalize yrS E w T z i = s at hle hTi nxt g1 g2 hf
      obtain ⟨U, z1, rf, ft⟩ := s
      have hN : yrN E w (U, z1, rf, ft) = ((E U z1).2.1, (E U z1).2.2, rf + (if (E U z1).1 = true then 0 else 1), ft + (if 0 < HHx w 3 (E U z1).2.1 0 0 (E U z1).2.1.1 then 1 else 0)) := rfl
      rw [hN] at nxt
      dsimp only at hle hTi nxt g1 g2 hf ⊢
      have hTe : txOK (E U z1).2.1 := hEk _ _ hTi
      refine v183_25 hp ?_
      rw [if_neg (fun z => absurd ((ni_le (by omega) (by omega)).mp z) (by omega)), g2, show z1 * 1103515245 + 12345 = dS z1 from rfl, cdr4]
      have gT : cTx 140 (am_u I1 0 17 (dS z1)) U := ⟨by rw [am_u_nq (by omega)]; exact g1.1, g1.2.1, fun j hj => by rw [am_u_nq (by omega)]; exact g1.2.2 j hj⟩
      refine sc_edit (d := D' + 1) hp gT (dV_lt _ (by omega)) (fun I2 a1 a2 a3 => am_back (v183_40 hp ?_))
      rw [am_u_same, hE] at a1 a2
      rw [am_u_same, hE]
      have hK2 : cKp I2 J1 w := g3.of (fun k => by rw [a3 _ _ (by omega) (by omega) (by omega), am_u_nq (by omega)]) rfl
      have hZ2 : cZf I I2 := g4.trans (fun o k e1 e2 e3 => by rw [a3 _ _ e1 (by omega) (by omega), am_u_nq e1])
      have hR2 : cRs r I2 J1 w := hR.mid hr hG (fun o k e1 e2 => hZ2 o k (by omega) (by omega) (by omega)) (fun o ho => g5 o (by omega))
      generalize E U z1 = e at hTe a1 a2 nxt ⊢
      obtain ⟨eb, V, z2⟩ := e
      dsimp only at hTe a1 a2 nxt ⊢
      -- behind the edit
      have nx : ∀ (rf2 : Nat), rf2 = rf + (if eb = true then 0 else 1) → (if b2 c = 0 then am_go none (D' + 5) 183 (25, [some (.ref 0), l1, some (.int (ni n)), some (.int (b2 c)), some (.int (ni rf2)), some (.int (ni f)), some (.int (ni i + 1))], [], (am_SH, I2, J1, Pf), 0, 0) P else am_mth (D' + 5) 2 [.ref 112, .ref 140, .int 0, .int (I2 140 1)] (am_SH, I2, J1, Pf) (am_af none (D' + 5) 183 69 [some (.ref 0), l1, some (.int (ni n)), some (.int (b2 c)), some (.int (ni rf2)), some (.int (ni f)), some (.int (ni i))] [.int (I2 140 1), .int 0, .ref 140, .ref 112] [] (am_SH, I2, J1, Pf) 0 0 false P)) := by
        intro rf2 hrf
        rw [← hrf] at nxt
        cases c with
        | false =>
          rw [if_pos (show b2 false = 0 from rfl), ni_p1]
          exact nxt I2 J1 _ a1 a2 hK2 hZ2 g5 f (fun z => by cases z)
        | true =>
          rw [if_neg (by decide), a1.1, show (0 : Int32) = ni 0 from rfl]
          refine cFIL_all hp hr hF hG hs 3 0 rfl _ _ 140 _ I2 J1 _ (by omega) rfl (by omega) (Or.inr (by omega)) hR2 a1 hTe hK2 (Nat.le_refl _) (fun i a b => absurd a (Nat.not_lt.mpr b)) (fun I3 J3 k1 k2 k3 k4 => am_back (v183_72 hp ?_))
          have hrow := (k1.2.2 0 (Nat.zero_le _)).1 0 (by omega)
          have h25 := hTe.1
          have hf' := hf rfl
          have g0 : I3 0 17 = z2 := by rw [k3 0 17 (by omega) (by omega) (by omega) (by omega) (by omega) (by omega)]; exact a2
          rw [show ((((0 : Int32) * 25) + 0)).toNatClampNeg = 25 * 0 + 0 from by decide, k1.1.1, ni_p1]
          refine ⟨by decide, ?_⟩
          by_cases c0 : 0 < HHx w 3 V 0 0 V.1
          · rw [if_pos c0] at nxt
            rw [if_neg (fun z => (bts_us hrow (by omega)).mp z ⟨Nat.zero_le _, Nat.le_refl _, c0⟩), ni_p1]
            exact nxt I3 J3 _ k1.1 g0 k2 (hZ2.trans k3.z) (g5.trans k4) (f + 1) (fun _ => by rw [hf'])
          · rw [if_neg c0] at nxt
            rw [if_pos ((bts_us hrow (by omega)).mpr (fun z => c0 z.2.2))]
            exact nxt I3 J3 _ k1.1 g0 k2 (hZ2.trans k3.z) (g5.trans k4) f (fun _ => by rw [hf', Nat.add_zero])
      cases eb with
      | true =>
        rw [show b2 true = 1 from rfl, if_neg (by decide)]
        exact nx rf rfl
      | false =>
        rw [show b2 false = 0 from rfl, if_pos rfl, ni_p1]
        exact nx (rf + 1) rfl
  refine am_mth_of rfl rfl (v183_0 hp ?_)
  refine sc_cptext (d := D' + 4) hp hT (fun I1 a1 a2 => am_back (v183_11 hp ?_))
  have e0 : (0 : Int32) = ni 0 := rfl
  have hf1 : ∀ o k, ¬ (o = 0 ∧ k = 17) → ¬ (o = 140 ∧ k = 1) → o ≠ 141 → am_u I1 0 17 z o k = I o k := fun o k e1 e2 e3 => by rw [am_u_nq e1]; exact a2 o k e2 e3
  exact LP n 0 _ J _ rfl (Nat.zero_le _) ⟨by rw [am_u_nq (by omega)]; exact a1.1, a1.2.1, fun i hi => by rw [am_u_nq (by omega)]; exact a1.2.2 i hi⟩ am_u_same (hK.of (fun k => hf1 _ _ (by omega) (by omega) (by omega)) rfl) (fun o k e1 e2 e3 => hf1 o k e1 (by omega) (by omega)) cJf.rfl' 0 (fun _ => rfl)
end YRC
