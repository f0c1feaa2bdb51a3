/-! Behind both constructors the invariant holds -/
theorem foldN_fix {α : Type} {f : Nat → α → α} {a : α} (h : ∀ i, f i a = a) : ∀ n, foldN n f a = a := by
  intro n
  induction n with
  | zero => rfl
  | succ n ih =>
    show f n (foldN n f a) = a
    rw [ih, h]
theorem w0E_n {i : Nat} (hi : i < 5) : w0E i = 0 := by
  show (if i < 1040 then w0 i else 0) = 0
  rw [if_pos (by omega)]
  exact fu_n (by omega)
theorem w0E_N {i : Nat} (hi : i < 5) : wN w0E i = 0 := by
  unfold wN
  rw [w0E_n hi]
  rfl
theorem w0E_5 : w0E 5 = -1 := by
  show (if 5 < 1040 then w0 5 else 0) = -1
  rw [if_pos (by omega)]
  exact fu_s
theorem w0E_use : useW w0E = fun _ _ => false := by
  funext s t
  unfold useW
  rw [w0E_N (by omega), w0E_N (by omega)]
  rfl
theorem w0E_drp : drpW w0E = fun _ _ => false := by
  funext s t
  unfold drpW
  rw [w0E_N (by omega)]
  rfl
theorem w0E_nd : ndW w0E 8 = fun _ _ => false := by
  unfold ndW
  rw [show ndE w0E = fun _ _ => false by funext s t; unfold ndE; rw [w0E_use, w0E_drp]; rfl]
  refine foldN_fix (fun _ => ?_) 8
  unfold ndTurn
  refine foldN_fix (fun s => ?_) 8
  unfold ndRow
  refine foldN_fix (fun t => ?_) 8
  funext a u
  unfold ndStep
  split <;> rfl
theorem w0E_ly : lyW w0E 64 = fun _ => 0 := by
  unfold lyW
  refine foldN_fix (fun _ => ?_) 64
  unfold lyTurn lyDrs
  rw [w0E_N (by omega)]
  show lyAll w0E 8 (fun _ => 0) = fun _ => 0
  unfold lyAll
  refine foldN_fix (fun s => ?_) 8
  unfold lyRow
  refine foldN_fix (fun t => ?_) 8
  funext a
  unfold lyS
  split <;> rfl
theorem w0E_em : emX w0E 8 = fun _ => false := by
  unfold emX
  refine foldN_fix (fun _ => ?_) 8
  rw [w0E_N (by omega)]
  rfl
theorem w0E_bg : bgC w0E 8 = fun _ _ => false := by
  unfold bgC
  refine foldN_fix (fun _ => ?_) 8
  rw [w0E_N (by omega), w0E_N (by omega)]
  rfl
theorem w0E_nm {c : Nat} : nmS w0E c = false := by
  unfold nmS
  rw [w0E_N (by omega), w0E_N (by omega)]
  rfl
theorem w0E_snd : sndW w0E := by
  intro s t h
  rw [w0E_drp] at h
  cases h
theorem kI_rowC {N : Nat} (h : Nat.beq N 119 = false) (h2 : ((kV1).all (fun x => !Nat.beq x.1 N)) = true) (h3 : ((kV2.take 3).all (fun x => !Nat.beq x.1 N)) = true) (k : Nat) : kI kB2 (kV2.take 3) N k = 0 := by
  refine (kI_row h3 k).trans ?_
  unfold kB2 am_fill
  rw [if_neg (fun e => by rw [e.1] at h; cases h)]
  refine (kI_row ?_ k).trans rfl
  rw [List.all_eq_true] at h2 ⊢
  exact fun x hx => h2 x (List.mem_of_mem_take hx)
/-- the invariant, behind both constructors -/
theorem INV_start {I : am_I} (f1 : I 167 = w0E) (f2 : rSo I w0E) (f3 : I 163 29 = 0) (f4 : I 163 34 = 0) (f5 : I 163 65 = 0) (f6 : I 163 35 = 0) (f7 : I 163 48 = 0) (f8 : I 163 46 = 0) (f9 : ∀ i, i < 25 → I 180 i = 0) (f10 : ∀ o k, ¬ (o = 163 ∧ (k = 29 ∨ k = 34 ∨ k = 65 ∨ k = 35 ∨ k = 48 ∨ k = 46)) → ¬ (o = 166 ∨ o = 167) → ¬ (169 ≤ o ∧ o ≤ 171) → o ≠ 180 → I o k = kI kB2 (kV2.take 3) o k) : INV I kJ (kR 204) := by
  have v : ∀ {o k : Nat} {x : Int32}, kI kB2 (kV2.take 3) o k = x → ¬ (o = 163 ∧ (k = 29 ∨ k = 34 ∨ k = 65 ∨ k = 35 ∨ k = 48 ∨ k = 46)) → ¬ (o = 166 ∨ o = 167) → ¬ (169 ≤ o ∧ o ≤ 171) → o ≠ 180 → I o k = x := fun e a b c d => (f10 _ _ a b c d).trans e
  have z : ∀ {o : Nat} (k : Nat), Nat.beq o 119 = false → ((kV1).all (fun x => !Nat.beq x.1 o)) = true → ((kV2.take 3).all (fun x => !Nat.beq x.1 o)) = true → ¬ (o = 163 ∧ (k = 29 ∨ k = 34 ∨ k = 65 ∨ k = 35 ∨ k = 48 ∨ k = 46)) → ¬ (o = 166 ∨ o = 167) → ¬ (169 ≤ o ∧ o ≤ 171) → o ≠ 180 → I o k = 0 := fun k h1 h2 h3 a b c d => (f10 _ k a b c d).trans (kI_rowC h1 h2 h3 k)
  have n0 := @w0E_N
  have e0 := @w0E_n
  have bz : ∀ (o : Nat), (∀ s, I o s = 0) → ∀ R : Nat → Nat → Bool, R = (fun _ _ => false) → btR I o R := fun o h R e s hs t ht => by rw [h s, e]; exact bI_0
  refine ⟨16, 94, w0E, (0, fun _ => 0), fun _ => (0, fun _ => 0), 0, fun _ _ => (0, fun _ => 0), 0, fun _ => 0, (0, fun _ => (0, 0)), ?_, WG_w0E, w0E_snd, ?_, ?_, f2, ?_, ?_, ?_⟩
  · exact ⟨kPF, Or.inl rfl, by decide +kernel, by decide +kernel, ⟨by decide +kernel, by decide +kernel⟩, Or.inl rfl, by decide +kernel, by decide +kernel⟩
  · refine ⟨⟨?_, ?_⟩, ⟨v (by decide +kernel) (by omega) (by omega) (by omega) (by omega), Nat.zero_le _, fun i hi => absurd hi (Nat.not_lt_zero _)⟩, ⟨Nat.zero_le _, fun i hi => absurd hi (Nat.not_lt_zero _)⟩, ?_, Or.inl (v (by decide +kernel) (by omega) (by omega) (by omega) (by omega))⟩
    · refine ⟨⟨?_, ?_, ?_, ?_, ?_, ?_⟩, fun c hc => ?_, fun c hc => ?_, fun c hc => ?_, fun c hc => ?_, fun c hc => ?_⟩
      · rw [e0 (by omega)]; exact v (by decide +kernel) (by omega) (by omega) (by omega) (by omega)
      · rw [e0 (by omega)]; exact v (by decide +kernel) (by omega) (by omega) (by omega) (by omega)
      · rw [e0 (by omega)]; exact v (by decide +kernel) (by omega) (by omega) (by omega) (by omega)
      · rw [e0 (by omega)]; exact v (by decide +kernel) (by omega) (by omega) (by omega) (by omega)
      · rw [e0 (by omega)]; exact v (by decide +kernel) (by omega) (by omega) (by omega) (by omega)
      · rw [w0E_5]; exact v (by decide +kernel) (by omega) (by omega) (by omega) (by omega)
      all_goals
        rw [n0 (by omega)] at hc
        exact absurd hc (Nat.not_lt_zero _)
    · refine ⟨⟨bz _ (fun s => z s (by decide) (by decide +kernel) (by decide +kernel) (by omega) (by omega) (by omega) (by omega)) _ w0E_use, bz _ (fun s => z s (by decide) (by decide +kernel) (by decide +kernel) (by omega) (by omega) (by omega) (by omega)) _ w0E_drp, bz _ (fun s => z s (by decide) (by decide +kernel) (by decide +kernel) (by omega) (by omega) (by omega) (by omega)) _ w0E_nd⟩, ⟨fun s hs => ?_, ?_⟩, fun t ht => ?_, fun s hs => ⟨fun k hk => ?_, fun k hk => bJ_0⟩, ⟨fun k hk => ?_, fun k hk => bJ_0⟩, fun c hc t ht => ?_⟩
      · rw [w0E_ly]; exact z s (by decide) (by decide +kernel) (by decide +kernel) (by omega) (by omega) (by omega) (by omega)
      · rw [w0E_ly]; exact v (by decide +kernel) (by omega) (by omega) (by omega) (by omega)
      · rw [w0E_em, show I (16 + 15) 5 = 0 from v (by decide +kernel) (by omega) (by omega) (by omega) (by omega)]
        exact bI_0
      · rw [w0E_bg]
        unfold sgD
        split <;> exact bJ_0
      · rw [w0E_nm]
        unfold sgD
        split <;> exact bJ_0
      · rw [show I (16 + 22) (c + 32) = 0 from z (c + 32) (by decide) (by decide +kernel) (by decide +kernel) (by omega) (by omega) (by omega) (by omega), bI_0, n0 (by omega)]
        rfl
    · intro c hc
      refine Or.inl ?_
      rw [f10 _ _ (by omega) (by omega) (by omega) (by omega)]
      refine (kI_row (by decide +kernel) c).trans ?_
      exact if_pos ⟨rfl, Nat.zero_le _, hc⟩
  · refine ⟨f1, f2.2.2, ⟨f9 0 (by omega), Nat.zero_le _, fun i hi => absurd hi (Nat.not_lt_zero _)⟩, ⟨Nat.zero_le _, fun i hi => absurd hi (Nat.not_lt_zero _)⟩, ⟨0, by omega, f7, fun e he => absurd he (Nat.not_lt_zero _)⟩, Or.inl f8⟩
  · refine ⟨?_, ?_, ?_, ?_, ?_, ?_, ?_, 0, by omega, ?_, ?_⟩
    · exact (v (x := -1) (by decide +kernel) (by omega) (by omega) (by omega) (by omega)).trans (v (by decide +kernel) (by omega) (by omega) (by omega) (by omega)).symm
    · exact (v (x := 0) (by decide +kernel) (by omega) (by omega) (by omega) (by omega)).trans f6.symm
    · exact (v (x := -1) (by decide +kernel) (by omega) (by omega) (by omega) (by omega)).trans (v (by decide +kernel) (by omega) (by omega) (by omega) (by omega)).symm
    · exact (v (x := 0) (by decide +kernel) (by omega) (by omega) (by omega) (by omega)).trans (v (by decide +kernel) (by omega) (by omega) (by omega) (by omega)).symm
    · exact (v (x := 0) (by decide +kernel) (by omega) (by omega) (by omega) (by omega)).trans (v (by decide +kernel) (by omega) (by omega) (by omega) (by omega)).symm
    · funext k
      rw [z k (by decide) (by decide +kernel) (by decide +kernel) (by omega) (by omega) (by omega) (by omega), z k (by decide) (by decide +kernel) (by decide +kernel) (by omega) (by omega) (by omega) (by omega)]
    · intro k
      rw [z k (by decide) (by decide +kernel) (by decide +kernel) (by omega) (by omega) (by omega) (by omega)]
      decide
    · exact v (by decide +kernel) (by omega) (by omega) (by omega) (by omega)
    · exact v (by decide +kernel) (by omega) (by omega) (by omega) (by omega)
  · exact ⟨⟨by omega, fun k hk => absurd hk (Nat.not_lt_zero _), ⟨v (by decide +kernel) (by omega) (by omega) (by omega) (by omega), fun k hk => absurd hk (Nat.not_lt_zero _)⟩, ⟨f4, fun k hk => absurd hk (Nat.not_lt_zero _)⟩⟩, by omega, fun k hk => absurd hk (Nat.not_lt_zero _), ⟨v (by decide +kernel) (by omega) (by omega) (by omega) (by omega), fun k hk => absurd hk (Nat.not_lt_zero _)⟩, ⟨f5, fun k hk => absurd hk (Nat.not_lt_zero _)⟩⟩
  · refine ⟨⟨v (by decide +kernel) (by omega) (by omega) (by omega) (by omega), fun i hi => ?_⟩, Or.inl rfl, f3, fun i hi => absurd hi (Nat.not_lt_zero _)⟩
    have hi0 : i = 0 := by
      have : i < 1 := hi
      omega
    subst hi0
    exact ⟨v (by decide +kernel) (by omega) (by omega) (by omega) (by omega), v (by decide +kernel) (by omega) (by omega) (by omega) (by omega)⟩
