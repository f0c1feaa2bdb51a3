/-! The shapes when the class's rows are made: a row filled; the reference's first work in its own shapes. Written by wip/whole/bv.py. -/
def am_SC : List am_K := [.inl 11, .inl 3, .inr (0, 600), .inl 1, .inr (9, 8), .inr (0, 8), .inr (0, 8), .inr (0, 8), .inl 6, .inl 6, .inl 6, .inl 6, .inl 6, .inl 6, .inl 6, .inl 6, .inl 4, .inr (9, 8), .inr (0, 20), .inr (1, 20), .inr (0, 20), .inr (0, 80), .inr (0, 80), .inr (0, 640), .inr (0, 4), .inr (0, 4), .inr (0, 12), .inr (0, 8), .inr (0, 8), .inr (0, 8), .inr (0, 8), .inl 7, .inr (0, 8), .inr (0, 8), .inr (0, 8), .inr (0, 8), .inr (9, 8), .inl 6, .inr (0, 127), .inl 6, .inl 6, .inl 6, .inl 6, .inl 6, .inl 6, .inl 6, .inl 6, .inl 6, .inl 6, .inl 6, .inl 6, .inl 6, .inl 6, .inl 6, .inl 6, .inl 4, .inr (9, 8), .inr (0, 20), .inr (1, 20), .inr (0, 20), .inr (0, 80), .inr (0, 80), .inr (0, 640), .inr (0, 4), .inr (0, 4), .inr (0, 12), .inr (0, 8), .inr (0, 8), .inr (0, 8), .inr (0, 8), .inl 7, .inr (0, 8), .inr (0, 8), .inr (0, 8), .inr (0, 8), .inr (9, 8), .inl 6, .inr (0, 127), .inl 6, .inl 6, .inl 6, .inl 6, .inl 6, .inl 6, .inl 6, .inl 6, .inl 6, .inl 6, .inl 6, .inl 6, .inl 6, .inl 6, .inl 6, .inl 6, .inl 2, .inr (0, 150), .inr (0, 150), .inr (0, 150), .inl 2, .inr (0, 150), .inr (0, 150), .inr (0, 150), .inl 8, .inr (0, 150), .inr (0, 150), .inr (0, 150), .inr (0, 1200), .inr (0, 7), .inl 5, .inr (0, 408), .inr (0, 17), .inr (8, 3), .inl 0, .inr (12, 3), .inr (0, 8), .inr (0, 8), .inr (0, 12), .inl 6, .inr (2, 768), .inr (0, 256), .inl 9, .inr (0, 24), .inr (0, 25), .inr (0, 200), .inr (0, 100), .inl 9, .inr (0, 24), .inr (0, 25), .inr (0, 200), .inr (0, 100), .inl 9, .inr (0, 24), .inr (0, 25), .inr (0, 200), .inr (0, 100), .inl 9, .inr (0, 24), .inr (0, 25), .inr (0, 200), .inr (0, 100), .inl 9, .inr (0, 24), .inr (0, 25), .inr (0, 200), .inr (0, 100), .inl 10, .inr (0, 5000), .inr (0, 200), .inr (0, 200), .inr (0, 1200), .inr (0, 2404), .inr (0, 4), .inr (0, 25), .inr (0, 25), .inl 5, .inr (0, 408), .inr (0, 17), .inl 5, .inr (0, 408), .inr (0, 17), .inl 5, .inr (0, 408), .inr (0, 17)]
def am_PT (_ : am_R) : Prop := True
theorem t341_0C {sc : Option (Nat × (Nat → Int32))} {d k n : Nat} {P : am_O → Prop} {I : am_I} {J : am_J} {Pf : am_R} (hp : am_PT Pf) {x0 : Nat} {Lx0 : Nat} (hx0 : am_SC[x0]? = some (.inr (0, Lx0))) {x1 : Int32} {l2 : Option Value} {l3 : Option Value} (q1 : am_go sc d 341 (5, [some (.ref x0), some (.int x1), some (.int 0), some (.int (Int32.ofNat Lx0))], [], (am_SC, I, J, Pf), k, n) P) : am_go sc d 341 (0, [some (.ref x0), some (.int x1), l2, l3], [], (am_SC, I, J, Pf), k, n) P := by
  refine am_s_iconst am_cc0 dc341_0.1.1.1 ?_
  refine am_s_istore_n (ls' := [some (.ref x0), some (.int x1), some (.int 0), l3]) rfl rfl dc341_0.1.1.2 ?_
  refine am_s_aload_n rfl dc341_0.1.2.1 ?_
  refine am_s_len (x := Int32.ofNat Lx0) dc341_0.1.2.2 hx0 rfl rfl ?_
  refine am_s_istore_n (ls' := [some (.ref x0), some (.int x1), some (.int 0), some (.int (Int32.ofNat Lx0))]) rfl rfl dc341_0.2.1.1 ?_
  exact q1
theorem t341_5C {sc : Option (Nat × (Nat → Int32))} {d k n : Nat} {P : am_O → Prop} {I : am_I} {J : am_J} {Pf : am_R} (hp : am_PT Pf) {x0 : Nat} {Lx0 : Nat} (hx0 : am_SC[x0]? = some (.inr (0, Lx0))) {x1 : Int32} {x2 : Int32} {x3 : Int32} (q1 : (x3 ≤ x2) → P (.inl none, (am_SC, I, J, Pf), k, n)) (q2 : (¬ (x3 ≤ x2)) → am_in x2 Lx0 = true) (q3 : (¬ (x3 ≤ x2)) → am_go sc d 341 (5, [some (.ref x0), some (.int x1), some (.int (x2 + 1)), some (.int x3)], [], (am_SC, am_u I x0 (Int32.toNatClampNeg x2) x1, J, Pf), k, n) P) : am_go sc d 341 (5, [some (.ref x0), some (.int x1), some (.int x2), some (.int x3)], [], (am_SC, I, J, Pf), k, n) P := by
  refine am_s_iload_n rfl dc341_0.2.1.2 ?_
  refine am_s_iload_n rfl dc341_0.2.2.1 ?_
  refine am_s_ic_ge dc341_0.2.2.2 rfl (fun c1 => ?_) (fun c1 => ?_)
  · exact am_s_return dc341_1.2.2.2 rfl (q1 c1)
  · refine am_s_aload_n rfl dc341_1.1.1 ?_
    refine am_s_iload_n rfl dc341_1.1.2.1 ?_
    refine am_s_iload_n rfl dc341_1.1.2.2 ?_
    refine am_s_iastore dc341_1.2.1.1 hx0 (q2 c1) rfl ?_
    refine am_s_iinc (ls' := [some (.ref x0), some (.int x1), some (.int (x2 + 1)), some (.int x3)]) am_cc1 rfl rfl dc341_1.2.1.2 ?_
    refine am_s_goto rfl dc341_1.2.2.1 ?_
    exact q3 c1
section
variable {d : Nat} {P : am_O → Prop} {I : am_I} {J : am_J} {Pf : am_R} {x z : Int32}
theorem jd_fillC (hp : am_PT Pf) {sc : Option (Nat × (Nat → Int32))} {k n o L : Nat} (ho : am_SC[o]? = some (.inr (0, L))) (hL : L < 2147483648) : ∀ (f lo : Nat) (I : am_I), L - lo = f → lo ≤ L → P (.inl none, (am_SC, am_fill I o lo L x, J, Pf), k, n) → am_go sc d 341 (5, [some (.ref o), some (.int x), some (.int (ni lo)), some (.int (ni L))], [], (am_SC, I, J, Pf), k, n) P := by
  intro f
  induction f with
  | zero =>
    intro lo I hf hlo kk
    have e : lo = L := by omega
    subst e
    rw [am_fill_0] at kk
    refine t341_5C hp ho (fun c => kk) (fun c => ?_) (fun c => ?_) <;> exact absurd ((ni_le hL hL).mpr (Nat.le_refl _)) c
  | succ f ih =>
    intro lo I hf hlo kk
    have c0 : ¬ (ni L ≤ ni lo) := by rw [ni_le hL (by omega)]; omega
    refine t341_5C hp ho (fun c => absurd c c0) (fun c => ni_in (by omega) (by omega)) (fun c => ?_)
    rw [ni_nat (by omega), ni_1, ni_add]
    refine ih (lo + 1) _ (by omega) (by omega) ?_
    rw [am_fill_s (by omega)]
    exact kk
end
section
variable {d : Nat} {P : am_O → Prop} {I : am_I} {J : am_J} {Pf : am_R} {x z : Int32}
theorem sp_fillC (hp : am_PT Pf) {o L : Nat} (ho : am_SC[o]? = some (.inr (0, L))) (hL : L < 2147483648) (kk : P (.inl none, (am_SC, am_fill I o 0 L x, J, Pf), 0, 0)) : am_mth (d + 1) 341 [.ref o, .int x] (am_SC, I, J, Pf) P :=
  am_mth_of rfl rfl (t341_0C hp ho (jd_fillC hp ho hL _ 0 I rfl (Nat.zero_le _) kk))
end
theorem kSC : am_SH.take 163 = am_SC := by decide +kernel
theorem kSG : am_SH.take 202 = am_SG := by decide +kernel
theorem kclears {D : Nat} {P : am_O → Prop} {I : am_I} {J : am_J} {Pf : am_R} (hD : 1 ≤ D) (hp : am_PF Pf) (kk : ∀ I', I' 166 = w0T (I 166) → (∀ o k, o ≠ 166 → I' o k = I o k) → P (.inl none, (am_SH.take 202, I', J, Pf), 0, 0)) : am_mth D 208 [.ref 163] (am_SH.take 202, I, J, Pf) P := by
  obtain ⟨d, rfl⟩ : ∃ d, D = d + 1 := ⟨D - 1, by omega⟩
  rw [kSG] at kk ⊢
  exact sr_clearsG hp kk
theorem ksets {D : Nat} {P : am_O → Prop} {I : am_I} {J : am_J} {Pf : am_R} (hD : 3 ≤ D) (hp : am_PF Pf) {w : Nat → Int32} (hG : WG w) (hw : ∀ i, i < 1040 → I 166 i = w i) (hhi : ∀ i, 1040 ≤ i → I 167 i = w i)
    (kk : ∀ I', I' 167 = w → rSo I' w → I' 163 29 = 0 → I' 163 34 = 0 → I' 163 65 = 0 → I' 163 35 = 0 → I' 163 48 = 0 → I' 163 46 = 0 → (∀ i, i < 25 → I' 180 i = 0) → (∀ o k, ¬ (o = 163 ∧ (k = 29 ∨ k = 34 ∨ k = 65 ∨ k = 35 ∨ k = 48 ∨ k = 46)) → o ≠ 167 → ¬ (169 ≤ o ∧ o ≤ 171) → o ≠ 180 → I' o k = I o k) → P (.inl none, (am_SH.take 202, I', J, Pf), 0, 0)) : am_mth D 209 [.ref 163] (am_SH.take 202, I, J, Pf) P := by
  obtain ⟨d, rfl⟩ : ∃ d, D = d + 3 := ⟨D - 3, by omega⟩
  rw [kSG] at kk ⊢
  exact sr_setsG hp hG hw hhi kk
theorem kfill {D : Nat} {P : am_O → Prop} {I : am_I} {J : am_J} {Pf : am_R} (hD : 1 ≤ D) (kk : P (.inl none, (am_SH.take 163, am_fill I 119 0 256 (-1), J, Pf), 0, 0)) : am_mth D 341 [.ref 119, .int (-1)] (am_SH.take 163, I, J, Pf) P := by
  obtain ⟨d, rfl⟩ : ∃ d, D = d + 1 := ⟨D - 1, by omega⟩
  rw [kSC] at kk ⊢
  exact sp_fillC (L := 256) trivial rfl (by omega) kk
