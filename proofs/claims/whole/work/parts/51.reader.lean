/-! The class's reader, method by method -/
/-- the byte at a place, -1 behind the last -/
def hv (b : Nat → Int32) (n a : Nat) : Int32 := if a < n then b a else -1
/-- behind blanks -/
def rskF (b : Nat → Int32) : Nat → Nat → Nat
  | 0, a => a
  | f + 1, a => if b a = 32 then rskF b f (a + 1) else a
def rsk (b : Nat → Int32) (n a : Nat) : Nat := rskF b (n - a) a
theorem rskF_le (b : Nat → Int32) : ∀ (f a : Nat), a ≤ rskF b f a ∧ rskF b f a ≤ a + f
  | 0, a => ⟨Nat.le_refl _, Nat.le_refl _⟩
  | f + 1, a => by
    unfold rskF
    split
    · have := rskF_le b f (a + 1)
      omega
    · omega
theorem rsk_le {b : Nat → Int32} {n a : Nat} (h : a ≤ n) : a ≤ rsk b n a ∧ rsk b n a ≤ n := by
  have := rskF_le b (n - a) a
  unfold rsk
  omega
def RD (I : am_I) (n a : Nat) : Prop := I 1 2 = ni n ∧ I 1 3 = ni a ∧ a ≤ n ∧ n ≤ 600
section SPR
variable {d : Nat} {P : am_O → Prop} {I : am_I} {J : am_J} {Pf : am_R} {n a : Nat}
theorem sp_rd_here (hp : am_PF Pf) (h : RD I n a) (kk : P (.inl (some (.int (hv (I 2) n a))), (am_SH, I, J, Pf), 0, 0)) : am_mth (d + 1) 54 [.ref 1] (am_SH, I, J, Pf) P := by
  obtain ⟨h1, h2, h3, h4⟩ := h
  refine am_mth_of rfl rfl ?_
  refine t54_0 hp (fun c => ?_) (fun c1 c2 => ?_) (fun c1 c2 c3 => ?_) (fun c1 c2 c3 => ?_) (fun c1 c2 c3 => ?_)
  · rw [h2] at c; exact absurd c (ni_nonneg (by omega))
  · rw [h1, h2, ni_le (by omega) (by omega)] at c2
    rw [show hv (I 2) n a = -1 from if_neg (by omega)] at kk
    exact kk
  · rw [h1, h2, ni_le (by omega) (by omega)] at c2
    rw [h2, show (600 : Int32) = ni 600 from rfl, ni_le (by omega) (by omega)] at c3
    omega
  · rw [h2, show (600 : Int32) = ni 600 from rfl, ni_le (by omega) (by omega)] at c3
    rw [h2]; exact ni_in (by omega) (by omega)
  · rw [h1, h2, ni_le (by omega) (by omega)] at c2
    rw [show hv (I 2) n a = I 2 a from if_pos (by omega)] at kk
    rw [h2, ni_nat (by omega)]
    exact kk
theorem rd_hbb (hp : am_PF Pf) {sc : Option (Nat × (Nat → Int32))} {k n0 : Nat} : ∀ (f : Nat) (I : am_I) (a : Nat), n - a = f → RD I n a → P (.inl (some (.int (hv (I 2) n (rsk (I 2) n a)))), (am_SH, am_u I 1 3 (ni (rsk (I 2) n a)), J, Pf), k, n0) → am_go sc d 55 (0, [some (.ref 1)], [], (am_SH, I, J, Pf), k, n0) P := by
  intro f
  induction f with
  | zero =>
    intro I a hf h kk
    obtain ⟨h1, h2, h3, h4⟩ := h
    have e1 : rsk (I 2) n a = a := by unfold rsk; rw [hf]; rfl
    have e2 : hv (I 2) n a = -1 := if_neg (by omega)
    rw [e1, e2, am_u_self h2] at kk
    have c2' : ¬ a < n := by omega
    refine t55_0 hp (fun c => kk) (fun c1 c2 => kk) (fun c1 c2 c3 => kk) (fun c1 c2 c3 => ?_) (fun c1 c2 c3 c4 => ?_) (fun c1 c2 c3 c4 => ?_) (fun c1 c2 c3 c4 => ?_)
    all_goals
      rw [h1, h2, ni_le (by omega) (by omega)] at c2
      omega
  | succ f ih =>
    intro I a hf h kk
    have hR := h
    obtain ⟨h1, h2, h3, h4⟩ := h
    have bad1 : ¬ (I 1 3 < 0) := by rw [h2]; exact ni_nonneg (by omega)
    have bad2 : ¬ (I 1 2 ≤ I 1 3) := by rw [h1, h2, ni_le (by omega) (by omega)]; omega
    have bad3 : ¬ ((600 : Int32) ≤ I 1 3) := by rw [h2, show (600 : Int32) = ni 600 from rfl, ni_le (by omega) (by omega)]; omega
    have hin : am_in (I 1 3) 600 = true := by rw [h2]; exact ni_in (by omega) (by omega)
    have hnat : (I 1 3).toNatClampNeg = a := by rw [h2]; exact ni_nat (by omega)
    refine t55_0 hp (fun c => absurd c bad1) (fun c1 c2 => absurd c2 bad2) (fun c1 c2 c3 => absurd c3 bad3) (fun c1 c2 c3 => hin) (fun c1 c2 c3 c4 => ?_) (fun c1 c2 c3 c4 => hin) (fun c1 c2 c3 c4 => ?_)
    · rw [hnat] at c4
      have e1 : rsk (I 2) n a = rsk (I 2) n (a + 1) := by
        unfold rsk
        rw [hf, show n - (a + 1) = f by omega]
        show (if I 2 a = 32 then _ else _) = _
        rw [if_pos c4]
      rw [h2, ni_1, ni_add]
      refine ih _ (a + 1) (by omega) ⟨?_, am_u_same, by omega, h4⟩ ?_
      · rw [am_u_nq (by omega)]; exact h1
      · rw [am_u_o (by omega), ← e1, am_u_u]
        exact kk
    · rw [hnat] at c4 ⊢
      have e1 : rsk (I 2) n a = a := by
        unfold rsk
        rw [hf]
        show (if I 2 a = 32 then _ else _) = _
        rw [if_neg c4]
      rw [e1, am_u_self h2, show hv (I 2) n a = I 2 a from if_pos (by omega)] at kk
      exact kk
theorem sp_rd_hbb (hp : am_PF Pf) (h : RD I n a) (kk : P (.inl (some (.int (hv (I 2) n (rsk (I 2) n a)))), (am_SH, am_u I 1 3 (ni (rsk (I 2) n a)), J, Pf), 0, 0)) : am_mth (d + 1) 55 [.ref 1] (am_SH, I, J, Pf) P := by
  refine am_mth_of rfl rfl ?_
  exact rd_hbb hp _ I a rfl h kk
/-- a fault, if none was before -/
def rfail (I : am_I) (kind place : Int32) : am_I := if I 1 5 = 0 then am_u (am_u I 1 5 kind) 1 6 place else I
theorem sp_rd_fail (hp : am_PF Pf) {kind place : Int32} (kk : P (.inl (some (.int 0)), (am_SH, rfail I kind place, J, Pf), 0, 0)) : am_mth (d + 1) 53 [.ref 1, .int kind, .int place] (am_SH, I, J, Pf) P := by
  refine am_mth_of rfl rfl ?_
  refine t53_0 hp (fun c => ?_) (fun c => ?_)
  · unfold rfail at kk; rw [if_neg c] at kk; exact kk
  · unfold rfail at kk; rw [if_pos (Decidable.not_not.mp c)] at kk; exact kk
/-- one sign, blanks ahead of it -/
theorem sp_rd_take (hp : am_PF Pf) {x : Int32} (h : RD I n a) (hx : x ≠ -1)
    (k1 : hv (I 2) n (rsk (I 2) n a) = x → P (.inl (some (.int 1)), (am_SH, am_u I 1 3 (ni (rsk (I 2) n a + 1)), J, Pf), 0, 0))
    (k2 : hv (I 2) n (rsk (I 2) n a) ≠ x → P (.inl (some (.int 0)), (am_SH, rfail (am_u I 1 3 (ni (rsk (I 2) n a))) 1 (ni (rsk (I 2) n a)), J, Pf), 0, 0)) : am_mth (d + 2) 56 [.ref 1, .int x] (am_SH, I, J, Pf) P := by
  refine am_mth_of rfl rfl ?_
  refine t56_0 hp (sp_rd_hbb hp h (am_back ?_))
  refine t56_4 hp (fun c => ?_) (fun c => ?_)
  · rw [am_u_same, am_u_u, ni_1, ni_add]
    exact k1 c
  · refine sp_rd_fail hp (am_back ?_)
    rw [am_u_same]
    exact t56_17 hp (k2 c) (Or.inl rfl)
end SPR
