/-! The reader's signs, words, names; put -/
def sgA (b : Nat → Int32) (n a : Nat) : Nat := if hv b n a = 92 then a + 1 else a
def sgOk (b : Nat → Int32) (n : Nat) (w : Int32) (a : Nat) : Bool := if hv b n a = 92 then isSg (hv b n (a + 1)) else isSg (hv b n a) && !isBr (hv b n a) w
theorem hv_lt {b : Nat → Int32} {n a : Nat} (h : hv b n a ≠ -1) : a < n := by
  unfold hv at h
  split at h
  · assumption
  · exact absurd rfl h
theorem sgA_le {b : Nat → Int32} {n a : Nat} (h : a ≤ n) : a ≤ sgA b n a ∧ sgA b n a ≤ n := by
  unfold sgA
  split
  · rename_i h1
    have := hv_lt (b := b) (n := n) (a := a) (by rw [h1]; decide)
    omega
  · omega
theorem isSg_lt {b : Nat → Int32} {n a : Nat} (h : isSg (hv b n a) = true) : a < n := by
  refine hv_lt (b := b) (fun e => ?_)
  rw [e] at h
  exact absurd h (by decide)
theorem sgOk_lt {b : Nat → Int32} {n a : Nat} {w : Int32} (h : sgOk b n w a = true) : sgA b n a < n := by
  unfold sgOk at h
  unfold sgA
  split at h
  · rename_i h1
    rw [if_pos h1]
    exact isSg_lt h
  · rename_i h1
    rw [if_neg h1]
    rw [Bool.and_eq_true] at h
    exact isSg_lt h.1
section SPG
variable {d : Nat} {P : am_O → Prop} {J : am_J} {Pf : am_R} {n : Nat} {I : am_I} {a : Nat} {w : Int32}
theorem sp_rd_takeSign (hp : am_PF Pf) (h : RD I n a)
    (k1 : sgOk (I 2) n w a = true → P (.inl (some (.int (hv (I 2) n (sgA (I 2) n a)))), (am_SH, am_u I 1 3 (ni (sgA (I 2) n a + 1)), J, Pf), 0, 0))
    (k2 : sgOk (I 2) n w a = false → P (.inl (some (.int (-1))), (am_SH, rfail (am_u I 1 3 (ni (sgA (I 2) n a))) 1 (ni (sgA (I 2) n a)), J, Pf), 0, 0)) :
    am_mth (d + 2) 63 [.ref 1, .int w] (am_SH, I, J, Pf) P := by
  have good : ∀ (M : am_I) (q : Nat) (l1 l3 : Option Value) (x : Int32), M 1 3 = ni q → P (.inl (some (.int x)), (am_SH, am_u M 1 3 (ni (q + 1)), J, Pf), 0, 0) → am_go none (d + 1) 63 (67, [some (.ref 1), l1, some (.int x), l3], [], (am_SH, M, J, Pf), 0, 0) P := by
    intro M q l1 l3 x hq kk
    refine t63_67 hp ?_
    rw [hq, ni_1, ni_add]
    exact kk
  have bad : ∀ (M : am_I) (q : Nat) (l1 l2 l3 : Option Value), M 1 3 = ni q → P (.inl (some (.int (-1))), (am_SH, rfail M 1 (ni q), J, Pf), 0, 0) → am_go none (d + 1) 63 (55, [some (.ref 1), l1, l2, l3], [], (am_SH, M, J, Pf), 0, 0) P := by
    intro M q l1 l2 l3 hq kk
    refine t63_55 hp ?_
    rw [hq]
    exact sp_rd_fail hp (am_back (t63_64 hp kk))
  have hself : am_u I 1 3 (ni a) = I := am_u_self h.2.1
  refine am_mth_of rfl rfl (t63_0 hp (sp_rd_here hp h (am_back ?_)))
  by_cases c : hv (I 2) n a = 92
  · have ha : a < n := hv_lt (b := I 2) (by rw [c]; decide)
    have eA : sgA (I 2) n a = a + 1 := if_pos c
    have eO : sgOk (I 2) n w a = isSg (hv (I 2) n (a + 1)) := if_pos c
    rw [eA, eO] at k1 k2
    refine t63_4 hp (fun z => absurd c z) (fun _ => ?_)
    rw [h.2.1, ni_1, ni_add]
    have hR := h.at (a' := a + 1) (by omega)
    have e2 : (am_u I 1 3 (ni (a + 1))) 2 = I 2 := am_u_o (by omega)
    refine sp_rd_here hp hR (am_back (t63_35 hp (t63_36 hp (sp_isSign hp (am_back ?_)))))
    rw [e2]
    cases hs : isSg (hv (I 2) n (a + 1)) with
    | true =>
      refine t63_40 hp (fun z => absurd z (by decide)) (fun _ _ => good _ (a + 1) _ _ _ am_u_same ?_) (fun _ z => absurd (by decide) z)
      rw [am_u_u]
      exact k1 hs
    | false =>
      exact t63_40 hp (fun _ => bad _ (a + 1) _ _ _ am_u_same (k2 hs)) (fun z => absurd rfl z) (fun z => absurd rfl z)
  · have eA : sgA (I 2) n a = a := if_neg c
    have eO : sgOk (I 2) n w a = (isSg (hv (I 2) n a) && !isBr (hv (I 2) n a) w) := if_neg c
    rw [eA, eO] at k1 k2
    rw [hself] at k2
    refine t63_4 hp (fun _ => ?_) (fun z => absurd c z)
    refine t63_36 hp (sp_isSign hp (am_back ?_))
    cases hs : isSg (hv (I 2) n a) with
    | true =>
      rw [hs] at k1 k2
      refine t63_40 hp (fun z => absurd z (by decide)) (fun _ z => absurd rfl z) (fun _ _ => sp_rd_isBarred hp (am_back ?_))
      cases hb : isBr (hv (I 2) n a) w with
      | true =>
        rw [hb] at k2
        exact t63_52 hp (fun z => absurd z (by decide)) (fun _ => bad _ a _ _ _ h.2.1 (k2 rfl))
      | false =>
        rw [hb] at k1
        exact t63_52 hp (fun _ => good _ a _ _ _ h.2.1 (k1 rfl)) (fun z => absurd rfl z)
    | false =>
      rw [hs] at k2
      exact t63_40 hp (fun _ => bad _ a _ _ _ h.2.1 (k2 rfl)) (fun z => absurd rfl z) (fun z => absurd rfl z)
/-- a word's signs from a place on: how many are read, the place behind them; whether a fault ends them -/
def wdF (b : Nat → Int32) (n : Nat) : Nat → Nat → Nat → Nat × Nat × Bool
  | 0, a, m => (m, a, true)
  | f + 1, a, m => if a < n ∧ b a ≠ 39 then (if sgOk b n 1 a = true then wdF b n f (sgA b n a + 1) (m + 1) else (m, sgA b n a, false)) else (m, a, true)
/-- the row that a word's signs are laid into -/
def wdM (b : Nat → Int32) (n : Nat) : Nat → Nat → Nat → (Nat → Int32) → Nat → Nat → (Nat → Int32)
  | 0, _, _, r, _, _ => r
  | f + 1, a, m, r, from', L => if a < n ∧ b a ≠ 39 then (if sgOk b n 1 a = true then wdM b n f (sgA b n a + 1) (m + 1) (if m < 8 ∧ from' + m < L then (fun i => if i = from' + m then hv b n (sgA b n a) else r i) else r) from' L else r) else r
end SPG
