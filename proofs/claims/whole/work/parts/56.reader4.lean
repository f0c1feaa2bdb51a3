/-! The reader: names compared; words; put -/
def nmF (b : Nat → Int32) (a0 : Nat) (t : List Int32) : Nat → Nat → Bool
  | 0, _ => true
  | f + 1, k => if b (a0 + k) = t.getD k 0 then nmF b a0 t f (k + 1) else false
/-- what stands from a0 to a is the text t -/
def nmB (b : Nat → Int32) (a0 a : Nat) (t : List Int32) : Bool := decide (a - a0 = t.length) && nmF b a0 t t.length 0
section SPM
variable {d : Nat} {P : am_O → Prop} {I : am_I} {J : am_J} {Pf : am_R} {n a a0 x : Nat}
theorem rd_named (hp : am_PF Pf) {k0 n0 : Nat} (hx : am_strq x = true) (h7 : I 1 7 = ni a0) (hL : a0 + (am_sb (x - 2)).length ≤ 600) : ∀ (f k : Nat) (l3 : Option Value), (am_sb (x - 2)).length - k = f → k ≤ (am_sb (x - 2)).length → P (.inl (some (.int (b2 (nmF (I 2) a0 (am_sb (x - 2)) f k)))), (am_SH, I, J, Pf), k0, n0) → am_go none (d + 4) 60 (20, [some (.ref 1), some (.retAddr x), some (.int (ni k)), l3], [], (am_SH, I, J, Pf), k0, n0) P := by
  have hq := tx_q hx
  have hl := tx_len (q := x - 2) (by omega)
  intro f
  induction f with
  | zero =>
    intro k l3 hf hk kk
    have e : k = (am_sb (x - 2)).length := by omega
    refine t60_20 hp hx (sp_length hx (am_back ?_))
    refine t60_25 hp hx (fun _ => kk) (fun c => ?_) (fun c => ?_) (fun c => ?_) (fun c => ?_)
    all_goals exact absurd ((ni_le (by omega) (by omega)).mpr (by omega)) c
  | succ f ih =>
    intro k l3 hf hk kk
    refine t60_20 hp hx (sp_length hx (am_back ?_))
    have e7 : I 1 7 + ni k = ni (a0 + k) := by rw [h7, ni_add]
    have c1 : ¬ (ni (am_sb (x - 2)).length ≤ ni k) := by rw [ni_le (by omega) (by omega)]; omega
    have c2 : ¬ (I 1 7 + ni k < 0) := by rw [e7]; exact ni_nonneg (by omega)
    have c3 : ¬ ((600 : Int32) ≤ I 1 7 + ni k) := by rw [e7, show (600 : Int32) = ni 600 from rfl, ni_le (by omega) (by omega)]; omega
    refine t60_25 hp hx (fun c => absurd c c1) (fun _ c => absurd c c2) (fun _ _ c => absurd c c3) (fun _ _ _ => by rw [e7]; exact ni_in (by omega) (by omega)) (fun _ _ _ => sp_charAt hx (by omega) (am_back ?_))
    rw [e7, ni_nat (by omega)]
    by_cases c : I 2 (a0 + k) = (am_sb (x - 2)).getD k 0
    · refine t60_57 hp hx (fun _ => ?_) (fun z => absurd c z)
      rw [ni_1, ni_add]
      refine ih (k + 1) _ (by omega) (by omega) ?_
      have e : nmF (I 2) a0 (am_sb (x - 2)) (f + 1) k = nmF (I 2) a0 (am_sb (x - 2)) f (k + 1) := if_pos c
      rw [e] at kk
      exact kk
    · refine t60_57 hp hx (fun z => absurd z c) (fun _ => ?_)
      have e : nmF (I 2) a0 (am_sb (x - 2)) (f + 1) k = false := if_neg c
      rw [e] at kk
      exact kk
theorem sp_rd_isNamed (hp : am_PF Pf) (h : RD I n a) (h7 : I 1 7 = ni a0) (h0 : a0 ≤ a) (hx : am_strq x = true) (kk : P (.inl (some (.int (b2 (nmB (I 2) a0 a (am_sb (x - 2)))))), (am_SH, I, J, Pf), 0, 0)) : am_mth (d + 5) 60 [.ref 1, .retAddr x] (am_SH, I, J, Pf) P := by
  have hq := tx_q hx
  have hl := tx_len (q := x - 2) (by omega)
  obtain ⟨h1, h2, h3, h4⟩ := h
  have e : I 1 3 - I 1 7 = ni (a - a0) := by rw [h2, h7, ni_sub h0]
  refine am_mth_of rfl rfl (t60_0 hp hx (sp_length hx (am_back ?_)))
  rw [e]
  by_cases c : a - a0 = (am_sb (x - 2)).length
  · have eb : nmB (I 2) a0 a (am_sb (x - 2)) = nmF (I 2) a0 (am_sb (x - 2)) (am_sb (x - 2)).length 0 := by
      unfold nmB
      rw [decide_eq_true c]
      rfl
    rw [eb] at kk
    refine t60_13 hp hx (fun _ => ?_) (fun z => absurd ((ni_inj (by omega) (by omega)).mpr c) z)
    exact rd_named (d := d) hp hx h7 (by omega) _ 0 _ rfl (Nat.zero_le _) kk
  · have eb : nmB (I 2) a0 a (am_sb (x - 2)) = false := by
      unfold nmB
      rw [decide_eq_false c]
      rfl
    rw [eb] at kk
    exact t60_13 hp hx (fun z => absurd ((ni_inj (by omega) (by omega)).mp z) c) (fun _ => kk)
/-! put -/
def byt (x : Int32) (s : Nat) : Int32 := UInt32.toInt32 (Int32.toUInt32 x >>> (Int32.toUInt32 (ni s) &&& Int32.toUInt32 31)) &&& 255
theorem sp_rd_put (hp : am_PF Pf) {v : Int32} {m : Nat} (h1 : I 1 1 = ni m) (h6 : m + 4 ≤ 600) (kk : P (.inl none, (am_SH, am_u (am_u (am_u (am_u (am_u I 2 m (byt v 24)) 2 (m + 1) (byt v 16)) 2 (m + 2) (byt v 8)) 2 (m + 3) (byt v 0)) 1 1 (ni (m + 4)), J, Pf), 0, 0)) : am_mth (d + 1) 51 [.ref 1, .int v] (am_SH, I, J, Pf) P := by
  have stp : ∀ (M : am_I) (q s : Nat), M 1 1 = ni q → q < 600 → s < 100 → am_go none d 51 (3, [some (.ref 1), some (.int v), some (.int (ni s + -8))], [], (am_SH, am_u (am_u M 2 q (byt v s)) 1 1 (ni (q + 1)), J, Pf), 0, 0) P → am_go none d 51 (3, [some (.ref 1), some (.int v), some (.int (ni s))], [], (am_SH, M, J, Pf), 0, 0) P := by
    intro M q s hq h6 hs kk
    refine t51_3 hp (fun c => absurd c (ni_nonneg (by omega))) (fun _ c => ?_) (fun _ _ => ?_) (fun _ _ => ?_)
    · rw [hq, show (600 : Int32) = ni 600 from rfl, ni_le (by omega) (by omega)] at c
      omega
    · rw [hq]; exact ni_in (by omega) (by omega)
    · rw [hq, ni_nat (by omega), ni_1, ni_add]
      exact kk
  refine am_mth_of rfl rfl (t51_0 hp ?_)
  refine stp I m 24 h1 (by omega) (by omega) ?_
  rw [show ni 24 + -8 = ni 16 from by decide]
  refine stp _ (m + 1) 16 am_u_same (by omega) (by omega) ?_
  rw [show ni 16 + -8 = ni 8 from by decide]
  refine stp _ (m + 2) 8 am_u_same (by omega) (by omega) ?_
  rw [show ni 8 + -8 = ni 0 from by decide]
  refine stp _ (m + 3) 0 am_u_same (by omega) (by omega) ?_
  have c : ni 0 + -8 < 0 := by decide
  refine t51_3 hp (fun _ => ?_) (fun z => absurd c z) (fun z => absurd c z) (fun z => absurd c z)
  have e : am_u (am_u (am_u (am_u (am_u (am_u (am_u (am_u I 2 m (byt v 24)) 1 1 (ni (m + 1))) 2 (m + 1) (byt v 16)) 1 1 (ni (m + 1 + 1))) 2 (m + 2) (byt v 8)) 1 1 (ni (m + 2 + 1))) 2 (m + 3) (byt v 0)) 1 1 (ni (m + 3 + 1)) = am_u (am_u (am_u (am_u (am_u I 2 m (byt v 24)) 2 (m + 1) (byt v 16)) 2 (m + 2) (byt v 8)) 2 (m + 3) (byt v 0)) 1 1 (ni (m + 4)) := by
    funext o i
    unfold am_u
    by_cases h2 : o = 1
    · subst h2
      by_cases h3 : i = 1
      · simp [h3]
      · simp [h3]
    · simp [h2]
  rw [e]
  exact kk
end SPM
