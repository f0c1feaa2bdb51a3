/-! The reference is made; what stands behind both -/
def w0E : Nat → Int32 := w0T (fun _ => 0)
theorem WG_w0E : WG w0E := WG_w0.agr (fun _ hi => if_pos hi)
theorem kZ2 {N : Nat} (h : 163 ≤ N) : ∀ k, kB2 N k = 0 := by
  intro k
  show (if N = 119 ∧ 0 ≤ k ∧ k < 256 then (-1 : Int32) else kI kB1 (kV1.take 13) N k) = 0
  rw [if_neg (by omega)]
  refine (kI_row (List.all_eq_true.mpr (fun x hx => ?_)) k).trans rfl
  have h2 : (kV1.take 13).all (fun x => Nat.blt x.1 163) = true := by decide +kernel
  have h3 := Nat.blt_eq.mp (List.all_eq_true.mp h2 x hx)
  cases hb : Nat.beq x.1 N with
  | false => rfl
  | true => exact absurd (Nat.eq_of_beq_eq_true hb) (by omega)
theorem kI_166 : (kI kB2 (kV2.take 3)) 166 = fun _ => 0 := funext (fun k => (kI_row (by decide +kernel) k).trans (kZ2 (by decide) k))
theorem kI_167 {k : Nat} : (kI kB2 (kV2.take 3)) 167 k = 0 := (kI_row (by decide +kernel) k).trans (kZ2 (by decide) k)
theorem kPFb : (List.range 203).all (fun o => (List.range ((am_pfl[o]?.getD []).length)).all (fun f => decide (am_pf0 o f = none ∨ kR 204 o f = am_pf0 o f))) = true := by decide +kernel
theorem am_pf0_ge {o f : Nat} (h : am_pf0 o f ≠ none) : o < 203 ∧ f < (am_pfl[o]?.getD []).length := by
  have hl : am_pfl.length = 203 := by decide +kernel
  unfold am_pf0 at h
  constructor
  · by_cases ho : o < 203
    · exact ho
    · have e : am_pfl[o]? = none := List.getElem?_eq_none (by omega)
      rw [e] at h
      exact absurd rfl h
  · by_cases hf : f < (am_pfl[o]?.getD []).length
    · exact hf
    · have e : (am_pfl[o]?.getD [])[f]? = none := List.getElem?_eq_none (by omega)
      rw [e] at h
      exact absurd rfl h
theorem kPF : am_PF (kR 204) := by
  intro o f t e
  have hn : am_pf0 o f ≠ none := by rw [e]; exact nofun
  obtain ⟨h1, h2⟩ := am_pf0_ge hn
  have h3 := of_decide_eq_true (List.all_eq_true.mp (List.all_eq_true.mp kPFb o (List.mem_range.mpr h1)) f (List.mem_range.mpr h2))
  rcases h3 with h3 | h3
  · exact absurd h3 hn
  · rw [h3, e]
theorem kcM {D : Nat} {P : am_O → Prop} (hD : 9 ≤ D) (kk : ∀ I', I' 167 = w0E → rSo I' w0E → I' 163 29 = 0 → I' 163 34 = 0 → I' 163 65 = 0 → I' 163 35 = 0 → I' 163 48 = 0 → I' 163 46 = 0 → (∀ i, i < 25 → I' 180 i = 0) → (∀ o k, ¬ (o = 163 ∧ (k = 29 ∨ k = 34 ∨ k = 65 ∨ k = 35 ∨ k = 48 ∨ k = 46)) → ¬ (o = 166 ∨ o = 167) → ¬ (169 ≤ o ∧ o ≤ 171) → o ≠ 180 → I' o k = kI kB2 (kV2.take 3) o k) → P (.inl none, (am_SH.take 202, I', kJ, kR 204), 38, 47443)) : am_mth D 191 [.ref 163] (am_SH.take 164, kI kB2 (kV2.take 1), kJ, kR 166) P := by
  obtain ⟨d, rfl⟩ : ∃ d, D = d + 1 := ⟨D - 1, by omega⟩
  refine am_mth_of rfl rfl ?_
  show am_go none d 191 (0, [some (.ref 163)], [], (am_SH.take 164, kI kB2 (kV2.take 1), kJ, kR 166), 0, 0) P
  refine am_s_aload_n rfl dc191_0.1.1.1 ?_
  refine am_s_objinit dc191_0.1.1.2 rfl rfl ?_
  refine am_s_aload_n rfl dc191_0.1.2.1 ?_
  refine am_s_iconst (x := 2) (by decide) dc191_0.1.2.2 ?_
  refine kb_newarray (k2 := 1) (n2 := 2) (L := 2) dc191_0.2.1.1 rfl rfl (by decide +kernel) (kZ2 (by decide)) (by decide +kernel) (by decide +kernel) (by decide) rfl rfl ?_
  refine kb_putR dc191_0.2.1.2 rfl (kS rfl (by decide)) rfl rfl (by decide +kernel) (by decide +kernel) ?_
  refine am_s_aload_n rfl dc191_0.2.2.1 ?_
  refine am_s_iconst (x := (-1)) (by decide) dc191_0.2.2.2 ?_
  refine kb_putI dc191_1.1.1.1 rfl (kS rfl (by decide)) rfl rfl (by decide +kernel) ?_
  refine am_s_aload_n rfl dc191_1.1.1.2 ?_
  refine am_s_sipush (x := 600) (by decide) dc191_1.1.2.1 ?_
  refine kb_newarray (k2 := 2) (n2 := 602) (L := 600) dc191_1.1.2.2 rfl rfl (by decide +kernel) (kZ2 (by decide)) (by decide +kernel) (by decide +kernel) (by decide) rfl rfl ?_
  refine kb_putR dc191_1.2.1.1 rfl (kS rfl (by decide)) rfl rfl (by decide +kernel) (by decide +kernel) ?_
  refine am_s_aload_n rfl dc191_1.2.1.2 ?_
  refine am_s_iconst (x := (-1)) (by decide) dc191_1.2.2.1 ?_
  refine kb_putI dc191_1.2.2.2 rfl (kS rfl (by decide)) rfl rfl (by decide +kernel) ?_
  refine am_s_aload_n rfl dc191_2.1.1.1 ?_
  refine am_s_sipush (x := 1040) (by decide) dc191_2.1.1.2 ?_
  refine kb_newarray (k2 := 3) (n2 := 1642) (L := 1040) dc191_2.1.2.1 rfl rfl (by decide +kernel) (kZ2 (by decide)) (by decide +kernel) (by decide +kernel) (by decide) rfl rfl ?_
  refine kb_putR dc191_2.1.2.2 rfl (kS rfl (by decide)) rfl rfl (by decide +kernel) (by decide +kernel) ?_
  refine am_s_aload_n rfl dc191_2.2.1.1 ?_
  refine am_s_sipush (x := 1040) (by decide) dc191_2.2.1.2 ?_
  refine kb_newarray (k2 := 4) (n2 := 2682) (L := 1040) dc191_2.2.2.1 rfl rfl (by decide +kernel) (kZ2 (by decide)) (by decide +kernel) (by decide +kernel) (by decide) rfl rfl ?_
  refine kb_putR dc191_2.2.2.2 rfl (kS rfl (by decide)) rfl rfl (by decide +kernel) (by decide +kernel) ?_
  refine am_s_aload_n rfl dc191_3.1.1.1 ?_
  refine am_s_sipush (x := 600) (by decide) dc191_3.1.1.2 ?_
  refine kb_newarray (k2 := 5) (n2 := 3282) (L := 600) dc191_3.1.2.1 rfl rfl (by decide +kernel) (kZ2 (by decide)) (by decide +kernel) (by decide +kernel) (by decide) rfl rfl ?_
  refine kb_putR dc191_3.1.2.2 rfl (kS rfl (by decide)) rfl rfl (by decide +kernel) (by decide +kernel) ?_
  refine am_s_aload_n rfl dc191_3.2.1.1 ?_
  refine am_s_bipush (x := 8) (by decide) dc191_3.2.1.2 ?_
  refine kb_newarray (k2 := 6) (n2 := 3290) (L := 8) dc191_3.2.2.1 rfl rfl (by decide +kernel) (kZ2 (by decide)) (by decide +kernel) (by decide +kernel) (by decide) rfl rfl ?_
  refine kb_putR dc191_3.2.2.2 rfl (kS rfl (by decide)) rfl rfl (by decide +kernel) (by decide +kernel) ?_
  refine am_s_aload_n rfl dc191_4.1.1.1 ?_
  refine am_s_bipush (x := 8) (by decide) dc191_4.1.1.2 ?_
  refine kb_newarray (k2 := 7) (n2 := 3298) (L := 8) dc191_4.1.2.1 rfl rfl (by decide +kernel) (kZ2 (by decide)) (by decide +kernel) (by decide +kernel) (by decide) rfl rfl ?_
  refine kb_putR dc191_4.1.2.2 rfl (kS rfl (by decide)) rfl rfl (by decide +kernel) (by decide +kernel) ?_
  refine am_s_aload_n rfl dc191_4.2.1.1 ?_
  refine am_s_bipush (x := 8) (by decide) dc191_4.2.1.2 ?_
  refine kb_newarray (k2 := 8) (n2 := 3306) (L := 8) dc191_4.2.2.1 rfl rfl (by decide +kernel) (kZ2 (by decide)) (by decide +kernel) (by decide +kernel) (by decide) rfl rfl ?_
  refine kb_putR dc191_4.2.2.2 rfl (kS rfl (by decide)) rfl rfl (by decide +kernel) (by decide +kernel) ?_
  refine am_s_aload_n rfl dc191_5.1.1.1 ?_
  refine am_s_sipush (x := 150) (by decide) dc191_5.1.1.2 ?_
  refine kb_newarray (k2 := 9) (n2 := 3456) (L := 150) dc191_5.1.2.1 rfl rfl (by decide +kernel) (kZ2 (by decide)) (by decide +kernel) (by decide +kernel) (by decide) rfl rfl ?_
  refine kb_putR dc191_5.1.2.2 rfl (kS rfl (by decide)) rfl rfl (by decide +kernel) (by decide +kernel) ?_
  refine am_s_aload_n rfl dc191_5.2.1.1 ?_
  refine am_s_sipush (x := 150) (by decide) dc191_5.2.1.2 ?_
  refine kb_newarray (k2 := 10) (n2 := 3606) (L := 150) dc191_5.2.2.1 rfl rfl (by decide +kernel) (kZ2 (by decide)) (by decide +kernel) (by decide +kernel) (by decide) rfl rfl ?_
  refine kb_putR dc191_5.2.2.2 rfl (kS rfl (by decide)) rfl rfl (by decide +kernel) (by decide +kernel) ?_
  refine am_s_aload_n rfl dc191_6.1.1.1 ?_
  refine am_s_sipush (x := 150) (by decide) dc191_6.1.1.2 ?_
  refine kb_newarray (k2 := 11) (n2 := 3756) (L := 150) dc191_6.1.2.1 rfl rfl (by decide +kernel) (kZ2 (by decide)) (by decide +kernel) (by decide +kernel) (by decide) rfl rfl ?_
  refine kb_putR dc191_6.1.2.2 rfl (kS rfl (by decide)) rfl rfl (by decide +kernel) (by decide +kernel) ?_
  refine am_s_aload_n rfl dc191_6.2.1.1 ?_
  refine am_s_sipush (x := 150) (by decide) dc191_6.2.1.2 ?_
  refine kb_newarray (k2 := 12) (n2 := 3906) (L := 150) dc191_6.2.2.1 rfl rfl (by decide +kernel) (kZ2 (by decide)) (by decide +kernel) (by decide +kernel) (by decide) rfl rfl ?_
  refine kb_putR dc191_6.2.2.2 rfl (kS rfl (by decide)) rfl rfl (by decide +kernel) (by decide +kernel) ?_
  refine am_s_aload_n rfl dc191_7.1.1.1 ?_
  refine am_s_sipush (x := 150) (by decide) dc191_7.1.1.2 ?_
  refine kb_newarray (k2 := 13) (n2 := 4056) (L := 150) dc191_7.1.2.1 rfl rfl (by decide +kernel) (kZ2 (by decide)) (by decide +kernel) (by decide +kernel) (by decide) rfl rfl ?_
  refine kb_putR dc191_7.1.2.2 rfl (kS rfl (by decide)) rfl rfl (by decide +kernel) (by decide +kernel) ?_
  refine am_s_aload_n rfl dc191_7.2.1.1 ?_
  refine am_s_bipush (x := 6) (by decide) dc191_7.2.1.2 ?_
  refine kb_newarray (k2 := 14) (n2 := 4062) (L := 6) dc191_7.2.2.1 rfl rfl (by decide +kernel) (kZ2 (by decide)) (by decide +kernel) (by decide +kernel) (by decide) rfl rfl ?_
  refine kb_putR dc191_7.2.2.2 rfl (kS rfl (by decide)) rfl rfl (by decide +kernel) (by decide +kernel) ?_
  refine am_s_aload_n rfl dc191_8.1.1.1 ?_
  refine am_s_sipush (x := 600) (by decide) dc191_8.1.1.2 ?_
  refine kb_newarray (k2 := 15) (n2 := 4662) (L := 600) dc191_8.1.2.1 rfl rfl (by decide +kernel) (kZ2 (by decide)) (by decide +kernel) (by decide +kernel) (by decide) rfl rfl ?_
  refine kb_putR dc191_8.1.2.2 rfl (kS rfl (by decide)) rfl rfl (by decide +kernel) (by decide +kernel) ?_
  refine am_s_aload_n rfl dc191_8.2.1.1 ?_
  refine am_s_sipush (x := 600) (by decide) dc191_8.2.1.2 ?_
  refine kb_newarray (k2 := 16) (n2 := 5262) (L := 600) dc191_8.2.2.1 rfl rfl (by decide +kernel) (kZ2 (by decide)) (by decide +kernel) (by decide +kernel) (by decide) rfl rfl ?_
  refine kb_putR dc191_8.2.2.2 rfl (kS rfl (by decide)) rfl rfl (by decide +kernel) (by decide +kernel) ?_
  refine am_s_aload_n rfl dc191_9.1.1.1 ?_
  refine am_s_bipush (x := 25) (by decide) dc191_9.1.1.2 ?_
  refine kb_newarray (k2 := 17) (n2 := 5287) (L := 25) dc191_9.1.2.1 rfl rfl (by decide +kernel) (kZ2 (by decide)) (by decide +kernel) (by decide +kernel) (by decide) rfl rfl ?_
  refine kb_putR dc191_9.1.2.2 rfl (kS rfl (by decide)) rfl rfl (by decide +kernel) (by decide +kernel) ?_
  refine am_s_aload_n rfl dc191_9.2.1.1 ?_
  refine am_s_bipush (x := 25) (by decide) dc191_9.2.1.2 ?_
  refine kb_newarray (k2 := 18) (n2 := 5312) (L := 25) dc191_9.2.2.1 rfl rfl (by decide +kernel) (kZ2 (by decide)) (by decide +kernel) (by decide +kernel) (by decide) rfl rfl ?_
  refine kb_putR dc191_9.2.2.2 rfl (kS rfl (by decide)) rfl rfl (by decide +kernel) (by decide +kernel) ?_
  refine am_s_aload_n rfl dc191_10.1.1.1 ?_
  refine am_s_sipush (x := 400) (by decide) dc191_10.1.1.2 ?_
  refine kb_newarray (k2 := 19) (n2 := 5712) (L := 400) dc191_10.1.2.1 rfl rfl (by decide +kernel) (kZ2 (by decide)) (by decide +kernel) (by decide +kernel) (by decide) rfl rfl ?_
  refine kb_putR dc191_10.1.2.2 rfl (kS rfl (by decide)) rfl rfl (by decide +kernel) (by decide +kernel) ?_
  refine am_s_aload_n rfl dc191_10.2.1.1 ?_
  refine am_s_bipush (x := 125) (by decide) dc191_10.2.1.2 ?_
  refine kb_newarray (k2 := 20) (n2 := 5837) (L := 125) dc191_10.2.2.1 rfl rfl (by decide +kernel) (kZ2 (by decide)) (by decide +kernel) (by decide +kernel) (by decide) rfl rfl ?_
  refine kb_putR dc191_10.2.2.2 rfl (kS rfl (by decide)) rfl rfl (by decide +kernel) (by decide +kernel) ?_
  refine am_s_aload_n rfl dc191_11.1.1.1 ?_
  refine am_s_sipush (x := 20000) (by decide) dc191_11.1.1.2 ?_
  refine kb_newarray (k2 := 21) (n2 := 25837) (L := 20000) dc191_11.1.2.1 rfl rfl (by decide +kernel) (kZ2 (by decide)) (by decide +kernel) (by decide +kernel) (by decide) rfl rfl ?_
  refine kb_putR dc191_11.1.2.2 rfl (kS rfl (by decide)) rfl rfl (by decide +kernel) (by decide +kernel) ?_
  refine am_s_aload_n rfl dc191_11.2.1.1 ?_
  refine am_s_sipush (x := 384) (by decide) dc191_11.2.1.2 ?_
  refine kb_newarray (k2 := 22) (n2 := 26221) (L := 384) dc191_11.2.2.1 rfl rfl (by decide +kernel) (kZ2 (by decide)) (by decide +kernel) (by decide +kernel) (by decide) rfl rfl ?_
  refine kb_putR dc191_11.2.2.2 rfl (kS rfl (by decide)) rfl rfl (by decide +kernel) (by decide +kernel) ?_
  refine am_s_aload_n rfl dc191_12.1.1.1 ?_
  refine am_s_sipush (x := 384) (by decide) dc191_12.1.1.2 ?_
  refine kb_newarray (k2 := 23) (n2 := 26605) (L := 384) dc191_12.1.2.1 rfl rfl (by decide +kernel) (kZ2 (by decide)) (by decide +kernel) (by decide +kernel) (by decide) rfl rfl ?_
  refine kb_putR dc191_12.1.2.2 rfl (kS rfl (by decide)) rfl rfl (by decide +kernel) (by decide +kernel) ?_
  refine am_s_aload_n rfl dc191_12.2.1.1 ?_
  refine am_s_sipush (x := 16200) (by decide) dc191_12.2.1.2 ?_
  refine kb_newarray (k2 := 24) (n2 := 42805) (L := 16200) dc191_12.2.2.1 rfl rfl (by decide +kernel) (kZ2 (by decide)) (by decide +kernel) (by decide +kernel) (by decide) rfl rfl ?_
  refine kb_putR dc191_12.2.2.2 rfl (kS rfl (by decide)) rfl rfl (by decide +kernel) (by decide +kernel) ?_
  refine am_s_aload_n rfl dc191_13.1.1.1 ?_
  refine am_s_bipush (x := 25) (by decide) dc191_13.1.1.2 ?_
  refine kb_newarray (k2 := 25) (n2 := 42830) (L := 25) dc191_13.1.2.1 rfl rfl (by decide +kernel) (kZ2 (by decide)) (by decide +kernel) (by decide +kernel) (by decide) rfl rfl ?_
  refine kb_putR dc191_13.1.2.2 rfl (kS rfl (by decide)) rfl rfl (by decide +kernel) (by decide +kernel) ?_
  refine am_s_aload_n rfl dc191_13.2.1.1 ?_
  refine am_s_bipush (x := 25) (by decide) dc191_13.2.1.2 ?_
  refine kb_newarray (k2 := 26) (n2 := 42855) (L := 25) dc191_13.2.2.1 rfl rfl (by decide +kernel) (kZ2 (by decide)) (by decide +kernel) (by decide +kernel) (by decide) rfl rfl ?_
  refine kb_putR dc191_13.2.2.2 rfl (kS rfl (by decide)) rfl rfl (by decide +kernel) (by decide +kernel) ?_
  refine am_s_aload_n rfl dc191_14.1.1.1 ?_
  refine am_s_bipush (x := 8) (by decide) dc191_14.1.1.2 ?_
  refine kb_newarray (k2 := 27) (n2 := 42863) (L := 8) dc191_14.1.2.1 rfl rfl (by decide +kernel) (kZ2 (by decide)) (by decide +kernel) (by decide +kernel) (by decide) rfl rfl ?_
  refine kb_putR dc191_14.1.2.2 rfl (kS rfl (by decide)) rfl rfl (by decide +kernel) (by decide +kernel) ?_
  refine am_s_aload_n rfl dc191_14.2.1.1 ?_
  refine am_s_bipush (x := 24) (by decide) dc191_14.2.1.2 ?_
  refine kb_newarray (k2 := 28) (n2 := 42887) (L := 24) dc191_14.2.2.1 rfl rfl (by decide +kernel) (kZ2 (by decide)) (by decide +kernel) (by decide +kernel) (by decide) rfl rfl ?_
  refine kb_putR dc191_14.2.2.2 rfl (kS rfl (by decide)) rfl rfl (by decide +kernel) (by decide +kernel) ?_
  refine am_s_aload_n rfl dc191_15.1.1.1 ?_
  refine am_s_bipush (x := 25) (by decide) dc191_15.1.1.2 ?_
  refine kb_newarray (k2 := 29) (n2 := 42912) (L := 25) dc191_15.1.2.1 rfl rfl (by decide +kernel) (kZ2 (by decide)) (by decide +kernel) (by decide +kernel) (by decide) rfl rfl ?_
  refine kb_putR dc191_15.1.2.2 rfl (kS rfl (by decide)) rfl rfl (by decide +kernel) (by decide +kernel) ?_
  refine am_s_aload_n rfl dc191_15.2.1.1 ?_
  refine am_s_bipush (x := 25) (by decide) dc191_15.2.1.2 ?_
  refine kb_newarray (k2 := 30) (n2 := 42937) (L := 25) dc191_15.2.2.1 rfl rfl (by decide +kernel) (kZ2 (by decide)) (by decide +kernel) (by decide +kernel) (by decide) rfl rfl ?_
  refine kb_putR dc191_15.2.2.2 rfl (kS rfl (by decide)) rfl rfl (by decide +kernel) (by decide +kernel) ?_
  refine am_s_aload_n rfl dc191_16.1.1.1 ?_
  refine am_s_sipush (x := 200) (by decide) dc191_16.1.1.2 ?_
  refine kb_newarray (k2 := 31) (n2 := 43137) (L := 200) dc191_16.1.2.1 rfl rfl (by decide +kernel) (kZ2 (by decide)) (by decide +kernel) (by decide +kernel) (by decide) rfl rfl ?_
  refine kb_putR dc191_16.1.2.2 rfl (kS rfl (by decide)) rfl rfl (by decide +kernel) (by decide +kernel) ?_
  refine am_s_aload_n rfl dc191_16.2.1.1 ?_
  refine am_s_sipush (x := 200) (by decide) dc191_16.2.1.2 ?_
  refine kb_newarray (k2 := 32) (n2 := 43337) (L := 200) dc191_16.2.2.1 rfl rfl (by decide +kernel) (kZ2 (by decide)) (by decide +kernel) (by decide +kernel) (by decide) rfl rfl ?_
  refine kb_putR dc191_16.2.2.2 rfl (kS rfl (by decide)) rfl rfl (by decide +kernel) (by decide +kernel) ?_
  refine am_s_aload_n rfl dc191_17.1.1.1 ?_
  refine am_s_sipush (x := 200) (by decide) dc191_17.1.1.2 ?_
  refine kb_newarray (k2 := 33) (n2 := 43537) (L := 200) dc191_17.1.2.1 rfl rfl (by decide +kernel) (kZ2 (by decide)) (by decide +kernel) (by decide +kernel) (by decide) rfl rfl ?_
  refine kb_putR dc191_17.1.2.2 rfl (kS rfl (by decide)) rfl rfl (by decide +kernel) (by decide +kernel) ?_
  refine am_s_aload_n rfl dc191_17.2.1.1 ?_
  refine am_s_sipush (x := 200) (by decide) dc191_17.2.1.2 ?_
  refine kb_newarray (k2 := 34) (n2 := 43737) (L := 200) dc191_17.2.2.1 rfl rfl (by decide +kernel) (kZ2 (by decide)) (by decide +kernel) (by decide +kernel) (by decide) rfl rfl ?_
  refine kb_putR dc191_17.2.2.2 rfl (kS rfl (by decide)) rfl rfl (by decide +kernel) (by decide +kernel) ?_
  refine am_s_aload_n rfl dc191_18.1.1.1 ?_
  refine am_s_sipush (x := 2412) (by decide) dc191_18.1.1.2 ?_
  refine kb_newarray (k2 := 35) (n2 := 46149) (L := 2412) dc191_18.1.2.1 rfl rfl (by decide +kernel) (kZ2 (by decide)) (by decide +kernel) (by decide +kernel) (by decide) rfl rfl ?_
  refine kb_putR dc191_18.1.2.2 rfl (kS rfl (by decide)) rfl rfl (by decide +kernel) (by decide +kernel) ?_
  refine am_s_aload_n rfl dc191_18.2.1.1 ?_
  refine am_s_bipush (x := 15) (by decide) dc191_18.2.1.2 ?_
  refine kb_newarray (k2 := 36) (n2 := 46164) (L := 15) dc191_18.2.2.1 rfl rfl (by decide +kernel) (kZ2 (by decide)) (by decide +kernel) (by decide +kernel) (by decide) rfl rfl ?_
  refine kb_putR dc191_18.2.2.2 rfl (kS rfl (by decide)) rfl rfl (by decide +kernel) (by decide +kernel) ?_
  refine am_s_aload_n rfl dc191_19.1.1.1 ?_
  refine am_s_iconst (x := 1) (by decide) dc191_19.1.1.2 ?_
  refine kb_newarray (k2 := 37) (n2 := 46165) (L := 1) dc191_19.1.2.1 rfl rfl (by decide +kernel) (kZ2 (by decide)) (by decide +kernel) (by decide +kernel) (by decide) rfl rfl ?_
  refine kb_putR dc191_19.1.2.2 rfl (kS rfl (by decide)) rfl rfl (by decide +kernel) (by decide +kernel) ?_
  refine am_s_aload_n rfl dc191_19.2.1.1 ?_
  refine am_s_sipush (x := 1278) (by decide) dc191_19.2.1.2 ?_
  refine kb_newarray (k2 := 38) (n2 := 47443) (L := 1278) dc191_19.2.2.1 rfl rfl (by decide +kernel) (kZ2 (by decide)) (by decide +kernel) (by decide +kernel) (by decide) rfl rfl ?_
  refine kb_putR dc191_19.2.2.2 rfl (kS rfl (by decide)) rfl rfl (by decide +kernel) (by decide +kernel) ?_
  refine am_s_aload_n rfl dc191_20.1.1 ?_
  refine am_s_virtual true dc191_20.1.2 rfl (by decide) rfl (kS rfl (by decide)) rfl (kclears (by omega) ?pf (fun I1 e1 e2 => kb_back (k2 := 38) (n2 := 47443) (by decide +kernel) rfl rfl ?_))
  case pf => exact kPF
  refine am_s_aload_n rfl dc191_20.2.1 ?_
  refine am_s_virtual true dc191_20.2.2.1 rfl (by decide) rfl (kS rfl (by decide)) rfl (ksets (by omega) kPF WG_w0E (w := w0E) (fun i hi => ?_) (fun i hi => ?_) (fun I2 f1 f2 f3 f4 f5 f6 f7 f8 f9 f10 => kb_back (k2 := 38) (n2 := 47443) (by decide +kernel) rfl rfl ?_))
  · rw [e1, show (kI kB2 (kV2.take 3)) 166 = fun _ => 0 from kI_166]
    rfl
  · rw [e2 _ _ (by decide), kI_167]
    exact (if_neg (by omega)).symm
  refine am_s_return dc191_20.2.2.2 rfl (kk I2 f1 f2 f3 f4 f5 f6 f7 f8 f9 (fun o k h1 h2 h3 h4 => ?_))
  · rw [f10 o k h1 (fun e => h2 (Or.inr e)) h3 h4, e2 o k (fun e => h2 (Or.inl e))]
