/-! The reader's numbers, names, signs -/
/-- the digits from a place on: their value, the place behind them -/
def dgF (b : Nat → Int32) : Nat → Nat → Nat → Nat × Nat
  | 0, a, v => (v, a)
  | f + 1, a, v => if isDg (b a) = true then dgF b f (a + 1) (10 * v + ((b a).toNatClampNeg - 48)) else (v, a)
theorem dgF_le (b : Nat → Int32) : ∀ (f a v : Nat), a ≤ (dgF b f a v).2 ∧ (dgF b f a v).2 ≤ a + f
  | 0, a, v => ⟨Nat.le_refl _, Nat.le_refl _⟩
  | f + 1, a, v => by
    unfold dgF
    split
    · have := dgF_le b f (a + 1) (10 * v + ((b a).toNatClampNeg - 48))
      omega
    · exact ⟨Nat.le_refl _, by show a ≤ a + (f + 1); omega⟩
theorem isDg_ni {x : Int32} (h : isDg x = true) : ∃ c : Nat, x = ni c ∧ 48 ≤ c ∧ c ≤ 57 := by
  have h1 := of_decide_eq_true h
  have h0 : (0 : Int32) ≤ x := Int32.le_trans (by decide) h1.1
  obtain ⟨c, hc, rfl⟩ := ni_of' h0
  refine ⟨c, rfl, ?_, ?_⟩
  · exact (ni_le (by omega) hc).mp h1.1
  · exact (ni_le hc (by omega)).mp h1.2
section SPN
variable {d : Nat} {P : am_O → Prop} {J : am_J} {Pf : am_R} {n : Nat}
theorem rd_num (hp : am_PF Pf) {sc : Option (Nat × (Nat → Int32))} {k n0 a0 : Nat} {most : Int32} (h0 : a0 ≤ 600) : ∀ (f : Nat) (I : am_I) (a v : Nat), n - a = f → RD I n a → I 1 8 = ni a0 →
    (ni (min 9999 (dgF (I 2) f a v).1) ≤ most → P (.inl (some (.int (ni (min 9999 (dgF (I 2) f a v).1)))), (am_SH, am_u I 1 3 (ni (dgF (I 2) f a v).2), J, Pf), k, n0)) →
    (¬ (ni (min 9999 (dgF (I 2) f a v).1) ≤ most) → P (.inl (some (.int (-1))), (am_SH, rfail (am_u I 1 3 (ni (dgF (I 2) f a v).2)) 2 (ni a0), J, Pf), k, n0)) →
    am_go sc (d + 1) 58 (32, [some (.ref 1), some (.int most), some (.int (ni (min 9999 v)))], [], (am_SH, I, J, Pf), k, n0) P := by
  intro f
  induction f with
  | zero =>
    intro I a v hf h h8 k1 k2
    have hR := h
    obtain ⟨h1, h2, h3, h4⟩ := h
    have e1 : am_u I 1 3 (ni a) = I := am_u_self h2
    have c0 : I 1 2 ≤ I 1 3 := by rw [h1, h2, ni_le (by omega) (by omega)]; omega
    change (ni (min 9999 v) ≤ most → P (.inl (some (.int (ni (min 9999 v)))), (am_SH, am_u I 1 3 (ni a), J, Pf), k, n0)) at k1
    change (¬ (ni (min 9999 v) ≤ most) → P (.inl (some (.int (-1))), (am_SH, rfail (am_u I 1 3 (ni a)) 2 (ni a0), J, Pf), k, n0)) at k2
    rw [e1] at k1 k2
    refine t58_32 hp (fun _ c => ?_) (fun _ c => k1 (i_nlt.mp c)) (fun c => absurd c0 c)
    rw [h8]
    exact sp_rd_fail hp (am_back (t58_101 hp (k2 (i_nle.mpr c))))
  | succ f ih =>
    intro I a v hf h h8 k1 k2
    have hR := h
    obtain ⟨h1, h2, h3, h4⟩ := h
    have c0 : ¬ (I 1 2 ≤ I 1 3) := by rw [h1, h2, ni_le (by omega) (by omega)]; omega
    have e0 : hv (I 2) n a = I 2 a := if_pos (by omega)
    refine t58_32 hp (fun c => absurd c c0) (fun c => absurd c c0) (fun _ => sp_rd_here hp hR (am_back ?_))
    rw [e0]
    refine t58_47 hp (sp_isDigit hp (am_back ?_))
    by_cases hd : isDg (I 2 a) = true
    · have ed : dgF (I 2) (f + 1) a v = dgF (I 2) f (a + 1) (10 * v + ((I 2 a).toNatClampNeg - 48)) := by
        show (if isDg (I 2 a) = true then _ else _) = _
        rw [if_pos hd]
      rw [ed] at k1 k2
      obtain ⟨c, hc, hc1, hc2⟩ := isDg_ni hd
      rw [hc, ni_nat (by omega)] at k1 k2
      have eb : b2 (isDg (I 2 a)) = 1 := by rw [hd]; rfl
      rw [eb]
      refine t58_50 hp (fun c => absurd c (by decide)) (fun c => absurd c (by decide)) (fun _ => sp_rd_here hp hR (am_back ?_))
      rw [e0, hc]
      have e9 : ni (min 9999 v) * 10 + ni c - 48 = ni (10 * min 9999 v + (c - 48)) := by
        rw [show (10 : Int32) = ni 10 from rfl, show (48 : Int32) = ni 48 from rfl, ni_mul, ni_add, ni_sub (by omega)]
        congr 1
        omega
      refine t58_64 hp (sp_min hp (am_back ?_))
      rw [e9]
      have e10 : (if ni (10 * min 9999 v + (c - 48)) < (9999 : Int32) then ni (10 * min 9999 v + (c - 48)) else (9999 : Int32)) = ni (min 9999 (10 * v + (c - 48))) := by
        have hlt := ni_lt (a := 10 * min 9999 v + (c - 48)) (b := 9999) (by omega) (by omega)
        by_cases c9 : 10 * min 9999 v + (c - 48) < 9999
        · refine (if_pos (show ni (10 * min 9999 v + (c - 48)) < (9999 : Int32) from hlt.mpr c9)).trans ?_; congr 1; omega
        · refine (if_neg (fun z : ni (10 * min 9999 v + (c - 48)) < (9999 : Int32) => c9 (hlt.mp z))).trans ?_; show ni 9999 = _; congr 1; omega
      rw [e10]
      refine t58_71 hp ?_
      rw [h2, ni_1, ni_add]
      have e2 : (am_u I 1 3 (ni (a + 1))) 2 = I 2 := am_u_o (by omega)
      refine ih _ (a + 1) (10 * v + (c - 48)) (by omega) (hR.at (by omega)) (by rw [am_u_nq (by omega)]; exact h8) ?_ ?_
      · rw [e2, am_u_u]; exact k1
      · rw [e2, am_u_u]; exact k2
    · have ed : dgF (I 2) (f + 1) a v = (v, a) := by
        show (if isDg (I 2 a) = true then _ else _) = _
        rw [if_neg hd]
      have e1 : am_u I 1 3 (ni a) = I := am_u_self h2
      rw [ed] at k1 k2
      dsimp only at k1 k2
      rw [e1] at k1 k2
      have eb : b2 (isDg (I 2 a)) = 0 := by rw [Bool.not_eq_true] at hd; rw [hd]; rfl
      rw [eb]
      refine t58_50 hp (fun _ c => ?_) (fun _ c => k1 (i_nlt.mp c)) (fun c => absurd rfl c)
      rw [h8]
      exact sp_rd_fail hp (am_back (t58_101 hp (k2 (i_nle.mpr c))))
variable {I : am_I} {a : Nat}
theorem sp_rd_takeNumber (hp : am_PF Pf) {most : Int32} (h : RD I n a)
    (k0 : isDg (hv (I 2) n (rsk (I 2) n a)) = false → P (.inl (some (.int (-1))), (am_SH, rfail (am_u I 1 3 (ni (rsk (I 2) n a))) 1 (ni (rsk (I 2) n a)), J, Pf), 0, 0))
    (k1 : isDg (hv (I 2) n (rsk (I 2) n a)) = true → ni (min 9999 (dgF (I 2) (n - rsk (I 2) n a) (rsk (I 2) n a) 0).1) ≤ most → P (.inl (some (.int (ni (min 9999 (dgF (I 2) (n - rsk (I 2) n a) (rsk (I 2) n a) 0).1)))), (am_SH, am_u (am_u I 1 8 (ni (rsk (I 2) n a))) 1 3 (ni (dgF (I 2) (n - rsk (I 2) n a) (rsk (I 2) n a) 0).2), J, Pf), 0, 0))
    (k2 : isDg (hv (I 2) n (rsk (I 2) n a)) = true → ¬ (ni (min 9999 (dgF (I 2) (n - rsk (I 2) n a) (rsk (I 2) n a) 0).1) ≤ most) → P (.inl (some (.int (-1))), (am_SH, rfail (am_u (am_u I 1 8 (ni (rsk (I 2) n a))) 1 3 (ni (dgF (I 2) (n - rsk (I 2) n a) (rsk (I 2) n a) 0).2)) 2 (ni (rsk (I 2) n a)), J, Pf), 0, 0)) :
    am_mth (d + 2) 58 [.ref 1, .int most] (am_SH, I, J, Pf) P := by
  have hr := rsk_le (b := I 2) h.2.2.1
  have hR := h.at hr.2
  have h4 := h.2.2.2
  refine am_mth_of rfl rfl (t58_0 hp (sp_rd_hbb hp h (am_back (t58_4 hp (sp_isDigit hp (am_back ?_))))))
  generalize hq : rsk (I 2) n a = q at *
  cases hd : isDg (hv (I 2) n q) with
  | false =>
    refine t58_7 hp (fun c => absurd rfl c) (fun _ => ?_)
    rw [am_u_same]
    exact sp_rd_fail hp (am_back (t58_19 hp (k0 hd)))
  | true =>
    refine t58_7 hp (fun _ => ?_) (fun c => absurd (by decide) c)
    rw [am_u_same]
    have e1 : am_u (am_u I 1 3 (ni q)) 1 8 (ni q) = am_u (am_u I 1 8 (ni q)) 1 3 (ni q) := am_u_sw (by omega)
    have e2 : (am_u (am_u I 1 8 (ni q)) 1 3 (ni q)) 2 = I 2 := by rw [am_u_o (by omega), am_u_o (by omega)]
    rw [e1]
    refine rd_num hp (a0 := q) (by omega) (n - q) _ q 0 rfl ((h.oth (by omega) (by omega)).at hr.2) (by rw [am_u_nq (by omega), am_u_same]) ?_ ?_
    · rw [e2, am_u_u]; exact k1 hd
    · rw [e2, am_u_u]; exact k2 hd
/-- behind letters -/
def ltF (b : Nat → Int32) : Nat → Nat → Nat
  | 0, a => a
  | f + 1, a => if isLt (b a) = true then ltF b f (a + 1) else a
theorem ltF_le (b : Nat → Int32) : ∀ (f a : Nat), a ≤ ltF b f a ∧ ltF b f a ≤ a + f
  | 0, a => ⟨Nat.le_refl _, Nat.le_refl _⟩
  | f + 1, a => by
    unfold ltF
    split
    · have := ltF_le b f (a + 1)
      omega
    · omega
theorem rd_name (hp : am_PF Pf) {sc : Option (Nat × (Nat → Int32))} {k n0 a0 : Nat} (h0 : a0 ≤ 600) : ∀ (f : Nat) (I : am_I) (a : Nat), n - a = f → RD I n a → I 1 7 = ni a0 →
    (a0 < ltF (I 2) f a → P (.inl (some (.int 1)), (am_SH, am_u I 1 3 (ni (ltF (I 2) f a)), J, Pf), k, n0)) →
    (¬ (a0 < ltF (I 2) f a) → P (.inl (some (.int 0)), (am_SH, rfail (am_u I 1 3 (ni (ltF (I 2) f a))) 1 (ni (ltF (I 2) f a)), J, Pf), k, n0)) →
    am_go sc (d + 1) 59 (13, [some (.ref 1)], [], (am_SH, I, J, Pf), k, n0) P := by
  have fin : ∀ (I : am_I) (a : Nat), RD I n a → I 1 7 = ni a0 → (a0 < a → P (.inl (some (.int 1)), (am_SH, I, J, Pf), k, n0)) → (¬ (a0 < a) → P (.inl (some (.int 0)), (am_SH, rfail I 1 (ni a), J, Pf), k, n0)) → am_go sc (d + 1) 59 (47, [some (.ref 1)], [], (am_SH, I, J, Pf), k, n0) P := by
    intro I a h h7 k1 k2
    obtain ⟨h1, h2, h3, h4⟩ := h
    have e : (I 1 7 < I 1 3) ↔ a0 < a := by rw [h2, h7, ni_lt (by omega) (by omega)]
    refine t59_47 hp (fun c => k1 (e.mp c)) (fun c => ?_)
    rw [h2]
    exact sp_rd_fail hp (am_back (t59_67 hp (fun _ => k2 (fun z => c (e.mpr z))) (fun z => absurd rfl z)))
  intro f
  induction f with
  | zero =>
    intro I a hf h h7 k1 k2
    have e1 : am_u I 1 3 (ni a) = I := am_u_self h.2.1
    change (a0 < a → P (.inl (some (.int 1)), (am_SH, am_u I 1 3 (ni a), J, Pf), k, n0)) at k1
    change (¬ (a0 < a) → P (.inl (some (.int 0)), (am_SH, rfail (am_u I 1 3 (ni a)) 1 (ni a), J, Pf), k, n0)) at k2
    rw [e1] at k1 k2
    have c0 : I 1 2 ≤ I 1 3 := by
      obtain ⟨h1, h2, h3, h4⟩ := h
      rw [h1, h2, ni_le (by omega) (by omega)]; omega
    exact t59_13 hp (fun _ => fin I a h h7 k1 k2) (fun c => absurd c0 c)
  | succ f ih =>
    intro I a hf h h7 k1 k2
    have c0 : ¬ (I 1 2 ≤ I 1 3) := by
      obtain ⟨h1, h2, h3, h4⟩ := h
      rw [h1, h2, ni_le (by omega) (by omega)]; omega
    have e0 : hv (I 2) n a = I 2 a := if_pos (by omega)
    refine t59_13 hp (fun c => absurd c c0) (fun _ => sp_rd_here hp h (am_back ?_))
    rw [e0]
    refine t59_28 hp (sp_isLetter hp (am_back ?_))
    cases hd : isLt (I 2 a) with
    | true =>
      have ed : ltF (I 2) (f + 1) a = ltF (I 2) f (a + 1) := by
        show (if isLt (I 2 a) = true then _ else _) = _
        rw [if_pos hd]
      rw [ed] at k1 k2
      refine t59_31 hp (fun c => absurd c (by decide)) (fun _ => ?_)
      rw [h.2.1, ni_1, ni_add]
      have e2 : (am_u I 1 3 (ni (a + 1))) 2 = I 2 := am_u_o (by omega)
      refine ih _ (a + 1) (by omega) (h.at (by omega)) (by rw [am_u_nq (by omega)]; exact h7) ?_ ?_
      · rw [e2, am_u_u]; exact k1
      · rw [e2, am_u_u]; exact k2
    | false =>
      have ed : ltF (I 2) (f + 1) a = a := by
        show (if isLt (I 2 a) = true then _ else _) = _
        rw [if_neg (by rw [hd]; decide)]
      have e1 : am_u I 1 3 (ni a) = I := am_u_self h.2.1
      rw [ed, e1] at k1 k2
      exact t59_31 hp (fun _ => fin I a h h7 k1 k2) (fun c => absurd rfl c)
theorem sp_rd_takeName (hp : am_PF Pf) (h : RD I n a)
    (k1 : rsk (I 2) n a < ltF (I 2) (n - rsk (I 2) n a) (rsk (I 2) n a) → P (.inl (some (.int 1)), (am_SH, am_u (am_u I 1 7 (ni (rsk (I 2) n a))) 1 3 (ni (ltF (I 2) (n - rsk (I 2) n a) (rsk (I 2) n a))), J, Pf), 0, 0))
    (k2 : ¬ (rsk (I 2) n a < ltF (I 2) (n - rsk (I 2) n a) (rsk (I 2) n a)) → P (.inl (some (.int 0)), (am_SH, rfail (am_u (am_u I 1 7 (ni (rsk (I 2) n a))) 1 3 (ni (ltF (I 2) (n - rsk (I 2) n a) (rsk (I 2) n a)))) 1 (ni (ltF (I 2) (n - rsk (I 2) n a) (rsk (I 2) n a))), J, Pf), 0, 0)) :
    am_mth (d + 2) 59 [.ref 1] (am_SH, I, J, Pf) P := by
  have hr := rsk_le (b := I 2) h.2.2.1
  have h4 := h.2.2.2
  refine am_mth_of rfl rfl (t59_0 hp (sp_rd_hbb hp h (am_back (t59_4 hp ?_))))
  generalize hq : rsk (I 2) n a = q at *
  rw [am_u_same]
  have e1 : am_u (am_u I 1 3 (ni q)) 1 7 (ni q) = am_u (am_u I 1 7 (ni q)) 1 3 (ni q) := am_u_sw (by omega)
  have e2 : (am_u (am_u I 1 7 (ni q)) 1 3 (ni q)) 2 = I 2 := by rw [am_u_o (by omega), am_u_o (by omega)]
  rw [e1]
  refine rd_name hp (a0 := q) (by omega) (n - q) _ q rfl ((h.oth (by omega) (by omega)).at hr.2) (by rw [am_u_nq (by omega), am_u_same]) ?_ ?_
  · rw [e2, am_u_u]; exact k1
  · rw [e2, am_u_u]; exact k2
end SPN
