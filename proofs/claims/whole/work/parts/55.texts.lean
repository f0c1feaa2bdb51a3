/-! Texts: length, charAt -/
theorem tx_all : (List.range 21).all (fun q => decide ((am_sb q).length < 100) && (List.range (am_sb q).length).all (fun i => decide (UInt32.toInt32 (Int32.toUInt32 ((am_sb q).getD i 0 &&& 255) % 65536) = (am_sb q).getD i 0) && am_rr 336 ((am_sb q).getD i 0) && am_rr 332 ((am_sb q).getD i 0))) = true := by decide +kernel
theorem tx_len {q : Nat} (h : q < 21) : (am_sb q).length < 100 := by
  have := List.all_eq_true.mp tx_all q (List.mem_range.mpr h)
  rw [Bool.and_eq_true] at this
  exact of_decide_eq_true this.1
theorem tx_at {q i : Nat} (h : q < 21) (hi : i < (am_sb q).length) : UInt32.toInt32 (Int32.toUInt32 ((am_sb q).getD i 0 &&& 255) % 65536) = (am_sb q).getD i 0 ∧ am_rr 336 ((am_sb q).getD i 0) = true ∧ am_rr 332 ((am_sb q).getD i 0) = true := by
  have := List.all_eq_true.mp tx_all q (List.mem_range.mpr h)
  rw [Bool.and_eq_true] at this
  have h2 := List.all_eq_true.mp this.2 i (List.mem_range.mpr hi)
  simp only [Bool.and_eq_true, decide_eq_true_eq] at h2
  exact ⟨h2.1.1, h2.1.2, h2.2⟩
theorem tx_q {x : Nat} (h : am_strq x = true) : 2 ≤ x ∧ x < 23 := by
  unfold am_strq at h
  rw [Bool.and_eq_true] at h
  exact ⟨Nat.le_of_ble_eq_true h.1, Nat.blt_eq.mp h.2⟩
theorem tx_b {x : Nat} (h : am_strq x = true) : am_bytq (x + 100) = true := by
  have := tx_q h
  unfold am_bytq
  rw [Bool.and_eq_true]
  exact ⟨Nat.ble_eq.mpr (by omega), Nat.blt_eq.mpr (by omega)⟩
theorem ishr0 (x : Int32) : x >>> ((0 : Int32) &&& 31) = x := by
  rw [show (0 : Int32) &&& 31 = 0 from by decide]
  simp
section SPT
variable {d : Nat} {P : am_O → Prop} {I : am_I} {J : am_J} {Pf : am_R} {x : Nat}
theorem sp_coder (hx : am_strq x = true) (kk : P (.inl (some (.int 0)), (am_SH, I, J, Pf), 0, 0)) : am_mth (d + 1) 333 [.retAddr x] (am_SH, I, J, Pf) P := by
  refine am_mth_of rfl rfl ?_
  refine am_s_scst dc333_0.1.1 rfl ?_
  refine am_s_if_eq dc333_0.1.2.1 rfl (fun c => absurd c (by decide)) (fun _ => ?_)
  refine am_s_aload_nT rfl dc333_0.1.2.2 ?_
  refine am_s_scod dc333_0.2.1.1 rfl hx ?_
  refine am_s_goto rfl dc333_0.2.1.2 ?_
  exact am_s_nreturn dc333_0.2.2.2 (by decide +kernel) kk
theorem sp_isLatin1 (hx : am_strq x = true) (kk : P (.inl (some (.int 1)), (am_SH, I, J, Pf), 0, 0)) : am_mth (d + 1) 334 [.retAddr x] (am_SH, I, J, Pf) P := by
  refine am_mth_of rfl rfl ?_
  refine am_s_scst dc334_0.1.1.1 rfl ?_
  refine am_s_if_eq dc334_0.1.1.2 rfl (fun c => absurd c (by decide)) (fun _ => ?_)
  refine am_s_aload_nT rfl dc334_0.1.2.1 ?_
  refine am_s_scod dc334_0.1.2.2 rfl hx ?_
  refine am_s_if_ne dc334_0.2.1.1 rfl (fun c => absurd rfl c) (fun _ => ?_)
  refine am_s_iconst am_cc1 dc334_0.2.1.2 ?_
  refine am_s_goto rfl dc334_0.2.2.1 ?_
  exact am_s_nreturn dc334_1 (by decide +kernel) kk
theorem sp_length (hx : am_strq x = true) (kk : P (.inl (some (.int (ni (am_sb (x - 2)).length))), (am_SH, I, J, Pf), 0, 0)) : am_mth (d + 2) 331 [.retAddr x] (am_SH, I, J, Pf) P := by
  have e : x + 99 - 101 = x - 2 := by omega
  refine am_mth_of rfl rfl ?_
  refine am_s_aload_nT rfl dc331_0.1.1 ?_
  refine am_s_sval dc331_0.1.2.1 rfl hx ?_
  refine am_s_slen (x := x + 99) dc331_0.1.2.2 (tx_b hx) ?_
  rw [e]
  refine am_s_aload_nT rfl dc331_0.2.1.1 ?_
  refine am_s_virtualT dc331_0.2.1.2 rfl rfl rfl (am_vT hx rfl rfl) (sp_coder hx (am_back ?_))
  refine am_s_ishr dc331_0.2.2.1 ?_
  rw [ishr0]
  exact am_s_ireturn dc331_0.2.2.2 rfl kk
theorem sp_pcheck {i L : Nat} {z : Nat} (hi : i < L) (hL : L < 100) (kk : P (.inl (some (.int (ni i))), (am_SH, I, J, Pf), 0, 0)) : am_mth (d + 1) 342 [.int (ni i), .int (ni L), .retAddr z] (am_SH, I, J, Pf) P := by
  refine am_mth_of rfl rfl ?_
  refine am_s_iload_n rfl dc342_0.1.1.1 ?_
  refine am_s_if_lt dc342_0.1.1.2 rfl (fun c => absurd c (ni_nonneg (by omega))) (fun _ => ?_)
  refine am_s_iload_n rfl dc342_0.1.2.1 ?_
  refine am_s_iload_n rfl dc342_0.1.2.2 ?_
  refine am_s_ic_lt dc342_0.2.1.1 rfl (fun _ => ?_) (fun c => absurd ((ni_lt (by omega) (by omega)).mpr hi) c)
  refine am_s_iload_n rfl dc342_1.2.1 ?_
  exact am_s_ireturn dc342_1.2.2 rfl kk
theorem sp_scheck {i L : Nat} (hi : i < L) (hL : L < 100) (kk : P (.inl none, (am_SH, I, J, Pf), 0, 0)) : am_mth (d + 2) 335 [.int (ni i), .int (ni L)] (am_SH, I, J, Pf) P := by
  refine am_mth_of rfl rfl ?_
  refine am_s_iload_n rfl dc335_0.1.1 ?_
  refine am_s_iload_n rfl dc335_0.1.2.1 ?_
  refine am_s_sfmt dc335_0.1.2.2 rfl ?_
  refine am_s_static dc335_0.2.1 rfl rfl rfl (sp_pcheck hi hL (am_back ?_))
  refine am_s_pop rfl dc335_0.2.2.1 ?_
  exact am_s_return dc335_0.2.2.2 rfl kk
theorem sp_lcharAt (hx : am_strq x = true) {i : Nat} (hi : i < (am_sb (x - 2)).length) (kk : P (.inl (some (.int ((am_sb (x - 2)).getD i 0))), (am_SH, I, J, Pf), 0, 0)) : am_mth (d + 3) 336 [.retAddr (x + 100), .int (ni i)] (am_SH, I, J, Pf) P := by
  have hq := tx_q hx
  have e : x + 99 - 101 = x - 2 := by omega
  have e2 : x + 100 - 102 = x - 2 := by omega
  have hL := tx_len (q := x - 2) (by omega)
  obtain ⟨g1, g2, -⟩ := tx_at (q := x - 2) (by omega) hi
  refine am_mth_of rfl rfl ?_
  refine am_s_iload_n rfl dc336_0.1.1.1 ?_
  refine am_s_aload_nT rfl dc336_0.1.1.2 ?_
  refine am_s_slen (x := x + 99) dc336_0.1.2.1 (tx_b hx) ?_
  rw [e]
  refine am_s_static dc336_0.1.2.2 rfl rfl rfl (sp_scheck hi hL (am_back ?_))
  refine am_s_aload_nT rfl dc336_0.2.1.1 ?_
  refine am_s_iload_n rfl dc336_0.2.1.2 ?_
  refine am_s_sbl dc336_0.2.2.1 (tx_b hx) (by rw [e2]; exact ni_in (by omega) hi) ?_
  rw [e2, ni_nat (by omega)]
  refine am_s_sipush am_cs255 dc336_0.2.2.2 ?_
  refine am_s_iand dc336_1.1 ?_
  refine am_s_i2c dc336_1.2.1 ?_
  rw [g1]
  exact am_s_nreturn dc336_1.2.2 g2 kk
theorem sp_charAt (hx : am_strq x = true) {i : Nat} (hi : i < (am_sb (x - 2)).length) (kk : P (.inl (some (.int ((am_sb (x - 2)).getD i 0))), (am_SH, I, J, Pf), 0, 0)) : am_mth (d + 4) 332 [.retAddr x, .int (ni i)] (am_SH, I, J, Pf) P := by
  have hq := tx_q hx
  obtain ⟨-, -, g3⟩ := tx_at (q := x - 2) (by omega) hi
  refine am_mth_of rfl rfl ?_
  refine am_s_aload_nT rfl dc332_0.1.1.1 ?_
  refine am_s_virtualT dc332_0.1.1.2 rfl rfl rfl (am_vT hx rfl rfl) (sp_isLatin1 hx (am_back ?_))
  refine am_s_if_eq dc332_0.1.2.1 rfl (fun c => absurd c (by decide)) (fun _ => ?_)
  refine am_s_aload_nT rfl dc332_0.1.2.2 ?_
  refine am_s_sval dc332_0.2.1.1 rfl hx ?_
  refine am_s_iload_n rfl dc332_0.2.1.2 ?_
  refine am_s_static dc332_0.2.2.1 rfl rfl rfl (sp_lcharAt hx hi (am_back ?_))
  exact am_s_nreturn dc332_0.2.2.2 g3 kk
end SPT
