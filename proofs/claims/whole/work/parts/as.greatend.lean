/-! How far a sort's pieces reach from the start -/
noncomputable def gtE (w : Nat → Int32) (k : Nat) (T : TX) (s : Nat) : Nat → Nat
  | 0 => 0
  | j + 1 => if 0 < HHx w k T s 0 (j + 1) then j + 1 else gtE w k T s j
theorem gtE_le {w : Nat → Int32} {k : Nat} {T : TX} {s : Nat} : ∀ j, gtE w k T s j ≤ j
  | 0 => Nat.le_refl _
  | j + 1 => by
    have := gtE_le (w := w) (k := k) (T := T) (s := s) j
    unfold gtE
    split <;> omega
section GRE
variable {d x : Nat} {P : am_O → Prop} {I : am_I} {J : am_J} {Pf : am_R} {T : TX} {w : Nat → Int32}
theorem sc_greatend (hp : am_PF Pf) (hx : am_SH[x]? = some (.inl 9)) {k : Nat} (hTb : cTb x I w k T) {s : Nat} (h8 : s < 8) (kk : P (.inl (some (.int (ni (gtE w k T s T.1)))), (am_SH, I, J, Pf), 0, 0)) : am_mth (d + 2) 121 [.ref x, .int (ni s)] (am_SH, I, J, Pf) P := by
  have h24 := hTb.1.2.1
  have hrow := (hTb.2.2 0 (Nat.zero_le _)).1 s h8
  have LP : ∀ (j : Nat), j ≤ T.1 → P (.inl (some (.int (ni (gtE w k T s j)))), (am_SH, I, J, Pf), 0, 0) → am_go none (d + 1) 121 (5, [some (.ref x), some (.int (ni s)), some (.int (ni j))], [], (am_SH, I, J, Pf), 0, 0) P := by
    intro j
    induction j with
    | zero =>
      intro hj kk
      refine v121_5 hp hx ?_
      rw [if_pos (show ni 0 ≤ (0 : Int32) from by decide)]
      exact kk
    | succ j ih =>
      intro hj kk
      refine v121_5 hp hx ?_
      rw [if_neg (fun z => absurd ((lle 0 (by omega) (by omega)).mp z) (by omega)), Int32.add_zero, show (25 : Int32) = ni 25 from rfl, ni_mul, show (ni (s * 25)).toNatClampNeg = 25 * s + 0 by rw [ni_nat (by omega)]; omega]
      refine ⟨ni_in (by omega) (by omega), ?_⟩
      have e : gtE w k T s (j + 1) = if 0 < HHx w k T s 0 (j + 1) then j + 1 else gtE w k T s j := rfl
      rw [e] at kk
      by_cases c : 0 < HHx w k T s 0 (j + 1)
      · rw [if_pos c] at kk
        rw [if_neg (fun z => (bts_us hrow (by omega)).mp z ⟨Nat.zero_le _, hj, c⟩)]
        exact kk
      · rw [if_neg c] at kk
        rw [if_pos ((bts_us hrow (by omega)).mpr (fun z => c z.2.2)), show ni (j + 1) + -1 = ni j by
          rw [← Int32.sub_eq_add_neg]; exact ni_sub (a := j + 1) (b := 1) (by omega)]
        exact ih (by omega) kk
  refine am_mth_of rfl rfl (v121_0 hp hx ?_)
  rw [hTb.1.1]
  exact LP T.1 (Nat.le_refl _) kk
end GRE
