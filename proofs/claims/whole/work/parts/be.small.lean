/-! Small calls of both; the shelf and its images -/
theorem INV.z {I : am_I} {J : am_J} {Pf : am_R} (h : INV I J Pf) {x : Int32} : INV (am_u I 163 0 x) J Pf := by
  obtain ⟨r, la, w, T, p, m, q, c, ms, L, h1, h2, h3, h4, h5, h6, h7, h8, h9⟩ := h
  have f : ∀ o k, ¬ (o = 163 ∧ k = 0) → am_u I 163 0 x o k = I o k := fun o k e => am_u_nq e
  exact ⟨r, la, w, T, p, m, q, c, ms, L, h1, h2, h3, h4.same h1.2.1 h2 (fun o k e1 e2 e3 => f o k (by omega)), h5.z, h6.of (fun o k e1 e2 => f o k (by omega)), h7.of (fun o k e => f o k (by omega)), h8.of (fun o k e => f o k (by omega)), h9.of h1.2.2.2.2.2.1 (fun o k e => f o k (by omega))⟩
section SML
variable {I : am_I} {J : am_J} {Pf : am_R}
theorem pr_faulted (h : INV I J Pf) : PAIR cd1 145 248 [] I J Pf := by
  have hp : am_PF Pf := by obtain ⟨r, la, w, T, p, m, q, c, ms, L, h1, -⟩ := h; exact h1.1
  have hc : INc I := by obtain ⟨r, la, w, T, p, m, q, c, ms, L, h1, h2, h3, h4, h5, h6, h7, -⟩ := h; exact h7
  intro D P hD kk
  obtain ⟨D', rfl⟩ : ∃ D', D = D' + 4 := ⟨D - 4, by omega⟩
  refine am_mth_of rfl rfl (v145_0 hp (kk (.inr (I 0 15)) I J Pf (fun E z => by cases z) (fun J2 hJ2 D2 P2 hD2 k2 => ?_) (fun _ => rfl) rfl))
  replace k2 := fun I2 hi => k2 I2 (INV.j202 hJ2 hi)
  obtain ⟨D2', rfl⟩ : ∃ D', D2 = D' + 4 := ⟨D2 - 4, by omega⟩
  refine am_mth_of rfl rfl (v248_0 hp ?_)
  have k2' : P2 (.inl (some (.int (I 0 15))), (am_SH, am_u I 163 0 0, J2, Pf), 0, 0) := k2 (am_u I 163 0 0) h.z am_u_same
  rw [← hc.1]
  exact k2'
theorem pr_fault (h : INV I J Pf) : PAIR cd1 144 206 [] I J Pf := by
  have hp : am_PF Pf := by obtain ⟨r, la, w, T, p, m, q, c, ms, L, h1, -⟩ := h; exact h1.1
  have hc : INc I := by obtain ⟨r, la, w, T, p, m, q, c, ms, L, h1, h2, h3, h4, h5, h6, h7, -⟩ := h; exact h7
  intro D P hD kk
  obtain ⟨D', rfl⟩ : ∃ D', D = D' + 4 := ⟨D - 4, by omega⟩
  refine am_mth_of rfl rfl (v144_0 hp (kk (.inr (I 1 6)) I J Pf (fun E z => by cases z) (fun J2 hJ2 D2 P2 hD2 k2 => ?_) (fun _ => rfl) rfl))
  replace k2 := fun I2 hi => k2 I2 (INV.j202 hJ2 hi)
  obtain ⟨D2', rfl⟩ : ∃ D', D2 = D' + 4 := ⟨D2 - 4, by omega⟩
  refine am_mth_of rfl rfl (v206_0 hp ?_)
  have k2' : P2 (.inl (some (.int (I 1 6))), (am_SH, am_u I 163 0 0, J2, Pf), 0, 0) := k2 (am_u I 163 0 0) h.z am_u_same
  rw [← hc.2.2.1]
  exact k2'
theorem pr_status (h : INV I J Pf) (x : Int32) : PAIR cd1 173 325 [.int x] I J Pf := by
  have hp : am_PF Pf := by obtain ⟨r, la, w, T, p, m, q, c, ms, L, h1, -⟩ := h; exact h1.1
  have hc : INc I := by obtain ⟨r, la, w, T, p, m, q, c, ms, L, h1, h2, h3, h4, h5, h6, h7, -⟩ := h; exact h7
  obtain ⟨-, -, -, c4, c5, -⟩ := hc
  intro D P hD kk
  obtain ⟨D', rfl⟩ : ∃ D', D = D' + 4 := ⟨D - 4, by omega⟩
  have key : ∀ a : Int32, a = (if x = 0 then I 164 0 else if x = 1 then I 164 1 else -1) → P (.inl (some (.int a)), (am_SH, I, J, Pf), 0, 0) := by
    intro a ha
    refine kk (.inr a) I J Pf (fun E z => by cases z) (fun J2 hJ2 D2 P2 hD2 k2 => ?_) (fun _ => rfl) rfl
    replace k2 := fun I2 hi => k2 I2 (INV.j202 hJ2 hi)
    obtain ⟨D2', rfl⟩ : ∃ D', D2 = D' + 4 := ⟨D2 - 4, by omega⟩
    have k2' := k2 (am_u I 163 0 0) h.z am_u_same
    have k2' : P2 (.inl (some (.int a)), (am_SH, am_u I 163 0 0, J2, Pf), 0, 0) := k2'
    rw [ha] at k2'
    refine am_mth_of rfl rfl (v325_0 hp ?_)
    by_cases c0 : x = 0
    · subst c0
      rw [if_pos rfl] at k2'
      rw [if_neg (by decide), if_neg (by decide)]
      exact ⟨by decide, k2'⟩
    · rw [if_neg c0] at k2'
      by_cases c1 : x = 1
      · subst c1
        rw [if_pos rfl] at k2'
        rw [if_neg (by decide), if_neg (by decide)]
        exact ⟨by decide, k2'⟩
      · rw [if_neg c1] at k2'
        by_cases cl : x < 0
        · rw [if_pos cl]; exact k2'
        · rw [if_neg cl]
          by_cases ch : 1 < x
          · rw [if_pos ch]; exact k2'
          · obtain ⟨a, e, h1⟩ := inW_of (n := 1) (by omega) cl ch
            subst e
            have : a = 0 ∨ a = 1 := by omega
            rcases this with rfl | rfl
            · exact absurd rfl c0
            · exact absurd rfl c1
  refine am_mth_of rfl rfl (v173_0 hp ?_)
  by_cases c0 : x = 0
  · rw [if_pos c0]; exact key _ (by rw [if_pos c0]; exact c4)
  · rw [if_neg c0]
    by_cases c1 : x = 1
    · rw [if_pos c1]; exact key _ (by rw [if_neg c0, if_pos c1]; exact c5)
    · rw [if_neg c1]; exact key _ (by rw [if_neg c0, if_neg c1])
theorem pr_count (h : INV I J Pf) (x : Int32) : PAIR cd1 174 326 [.int x] I J Pf := by
  have hp : am_PF Pf := by obtain ⟨r, la, w, T, p, m, q, c, ms, L, h1, -⟩ := h; exact h1.1
  have hh : I 0 9 = I 163 65 ∧ I 1 1 = I 163 2 ∧ I 108 2 = I 163 34 := by
    obtain ⟨r, la, w, T, p, m, q, c, ms, L, h1, h2, h3, h4, h5, h6, h7, h8, h9⟩ := h
    obtain ⟨-, -, -, -, -, -, -, tp, c8, c9, c10⟩ := h7
    obtain ⟨⟨d1, d2, d3, d4⟩, d5, d6, d7, d8⟩ := h8
    exact ⟨d7.1.trans d8.1.symm, c9.trans c10.symm, d3.1.trans d4.1.symm⟩
  obtain ⟨e0, e1, e2⟩ := hh
  intro D P hD kk
  obtain ⟨D', rfl⟩ : ∃ D', D = D' + 4 := ⟨D - 4, by omega⟩
  have key : ∀ a : Int32, a = (if x = 0 then I 163 65 else if x = 1 then I 163 2 else if x = 2 then I 163 34 else -1) → P (.inl (some (.int a)), (am_SH, I, J, Pf), 0, 0) := by
    intro a ha
    refine kk (.inr a) I J Pf (fun E z => by cases z) (fun J2 hJ2 D2 P2 hD2 k2 => ?_) (fun _ => rfl) rfl
    replace k2 := fun I2 hi => k2 I2 (INV.j202 hJ2 hi)
    obtain ⟨D2', rfl⟩ : ∃ D', D2 = D' + 4 := ⟨D2 - 4, by omega⟩
    have k2' := k2 (am_u I 163 0 0) h.z am_u_same
    have k2' : P2 (.inl (some (.int a)), (am_SH, am_u I 163 0 0, J2, Pf), 0, 0) := k2'
    rw [ha] at k2'
    refine am_mth_of rfl rfl (v326_0 hp ?_)
    by_cases c0 : x = 0
    · rw [if_pos c0] at k2' ⊢; exact k2'
    · rw [if_neg c0] at k2' ⊢
      by_cases c1 : x = 1
      · rw [if_pos c1] at k2' ⊢; exact k2'
      · rw [if_neg c1] at k2' ⊢
        by_cases c2 : x = 2
        · rw [if_pos c2] at k2' ⊢; exact k2'
        · rw [if_neg c2] at k2' ⊢; exact k2'
  refine am_mth_of rfl rfl (v174_0 hp ?_)
  by_cases c0 : x = 0
  · rw [if_pos c0]; exact key _ (by rw [if_pos c0]; exact e0)
  · rw [if_neg c0]
    by_cases c1 : x = 1
    · rw [if_pos c1]; exact key _ (by rw [if_neg c0, if_pos c1]; exact e1)
    · rw [if_neg c1]
      by_cases c2 : x = 2
      · rw [if_pos c2]; exact key _ (by rw [if_neg c0, if_neg c1, if_pos c2]; exact e2)
      · rw [if_neg c2]; exact key _ (by rw [if_neg c0, if_neg c1, if_neg c2])
end SML
