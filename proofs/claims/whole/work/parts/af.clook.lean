/-! The class's guards; its look at a text -/
theorem am_thru {d y pc k n k' n' E : Nat} {ls : am_L} {st r : List Value} {W W' : am_W} {P : am_O → Prop} (hh : am_hd y = []) (h : P (.inr E, W', k + k', n + n')) : am_af none d y pc ls st r W k n true P (.inr E, W', k', n') := by
  unfold am_af
  refine ⟨rfl, ?_⟩
  unfold am_cat
  rw [hh]
  exact h
section GRD
variable {d : Nat} {P : am_O → Prop} {I : am_I} {J : am_J} {Pf : am_R}
theorem sc_within (hp : am_PF Pf) {x1 x2 x3 : Int32} (kk1 : ¬ x1 < x2 → ¬ x3 < x1 → P (.inl none, (am_SH, I, J, Pf), 0, 0)) (kk0 : (x1 < x2 ∨ x3 < x1) → P (.inr 1, (am_SH, am_u I 0 19 (I 0 19 + 1), J, Pf), 1, 6)) : am_mth (d + 6) 176 [.ref 0, .int x1, .int x2, .int x3] (am_SH, I, J, Pf) P := by
  refine am_mth_of rfl rfl (v176_0 hp ?_)
  have bad : (x1 < x2 ∨ x3 < x1) → am_go none (d + 5) 176 (11, [some (.ref 0), some (.int x1), some (.int x2), some (.int x3)], [], (am_SH, I, J, Pf), 0, 0) P := fun z => v176_11 hp (am_go_th (E := 1) rfl rfl rfl rfl rfl (by omega) rfl rfl (kk0 z))
  by_cases c1 : x1 < x2
  · rw [if_pos c1]; exact bad (Or.inl c1)
  · rw [if_neg c1]
    by_cases c2 : x3 < x1
    · rw [if_pos c2]; exact bad (Or.inr c2)
    · rw [if_neg c2]; exact kk1 c1 c2
theorem sc_one (hp : am_PF Pf) {x1 x2 : Int32} (kk1 : ¬ x1 < 0 → ¬ x2 ≤ x1 → P (.inl none, (am_SH, I, J, Pf), 0, 0)) (kk0 : (x1 < 0 ∨ x2 ≤ x1) → P (.inr 0, (am_SH, am_u I 0 18 (I 0 18 + 1), J, Pf), 1, 6)) : am_mth (d + 6) 175 [.ref 0, .int x1, .int x2] (am_SH, I, J, Pf) P := by
  refine am_mth_of rfl rfl (v175_0 hp ?_)
  have bad : (x1 < 0 ∨ x2 ≤ x1) → am_go none (d + 5) 175 (10, [some (.ref 0), some (.int x1), some (.int x2)], [], (am_SH, I, J, Pf), 0, 0) P := fun z => v175_10 hp (am_go_th (E := 0) rfl rfl rfl rfl rfl (by omega) rfl rfl (kk0 z))
  by_cases c1 : x1 < 0
  · rw [if_pos c1]; exact bad (Or.inl c1)
  · rw [if_neg c1]
    by_cases c2 : x2 ≤ x1
    · rw [if_pos c2]; exact bad (Or.inr c2)
    · rw [if_neg c2]; exact kk1 c1 c2
/-- an argument within 0 to n -/
theorem sc_in (hp : am_PF Pf) {x : Int32} {n : Nat} (hn : n < 2147483648) (kk1 : ∀ a, x = ni a → a ≤ n → P (.inl none, (am_SH, I, J, Pf), 0, 0)) (kk0 : ¬ inW x n → P (.inr 1, (am_SH, am_u I 0 19 (I 0 19 + 1), J, Pf), 1, 6)) : am_mth (d + 6) 176 [.ref 0, .int x, .int 0, .int (ni n)] (am_SH, I, J, Pf) P := by
  refine sc_within hp (fun c1 c2 => ?_) (fun c => ?_)
  · obtain ⟨a, h1, h2⟩ := inW_of hn c1 c2
    exact kk1 a h1 h2
  · rcases c with c | c
    · exact kk0 (inW_lo hn c)
    · exact kk0 (inW_hi hn c)
theorem sc_nsort (hp : am_PF Pf) {x : Int32} (kk1 : ∀ s, x = ni s → s < 8 → P (.inl none, (am_SH, I, J, Pf), 0, 0)) (kk0 : ¬ inW x 7 → P (.inr 1, (am_SH, am_u I 0 19 (I 0 19 + 1), J, Pf), 1, 6)) : am_mth (d + 7) 177 [.ref 0, .int x] (am_SH, I, J, Pf) P := by
  refine am_mth_of rfl rfl (v177_0 hp ?_)
  rw [show (7 : Int32) = ni 7 from rfl]
  refine sc_in hp (by omega) (fun a h1 h2 => am_back (v177_8 hp (kk1 a h1 (by omega)))) (fun c => am_thru rfl (kk0 c))
/-- a piece told by three ints -/
def pcA (n : Nat) (x1 x2 x3 : Int32) : Prop := ∃ s i j, x1 = ni s ∧ x2 = ni i ∧ x3 = ni j ∧ s < 8 ∧ i ≤ j ∧ j ≤ n
theorem sc_npiece (hp : am_PF Pf) {n : Nat} (hn : n ≤ 24) (hI : I 135 1 = ni n) {x1 x2 x3 : Int32} (kk1 : ∀ s i j, x1 = ni s → x2 = ni i → x3 = ni j → s < 8 → i ≤ j → j ≤ n → P (.inl none, (am_SH, I, J, Pf), 0, 0)) (kk0 : ¬ pcA n x1 x2 x3 → P (.inr 1, (am_SH, am_u I 0 19 (I 0 19 + 1), J, Pf), 1, 6)) : am_mth (d + 8) 178 [.ref 0, .int x1, .int x2, .int x3] (am_SH, I, J, Pf) P := by
  refine am_mth_of rfl rfl (v178_0 hp ?_)
  refine sc_nsort hp (fun s hs h8 => am_back (v178_5 hp ?_)) (fun c => am_thru rfl (kk0 (fun ⟨s, i, j, h1, h2, h3, h4, h5, h6⟩ => c ⟨s, h1, by omega⟩)))
  rw [hI]
  refine sc_in (d := d + 1) hp (by omega) (fun j hj hjn => am_back (v178_18 hp ?_)) (fun c => am_thru rfl (kk0 (fun ⟨s, i, j, h1, h2, h3, h4, h5, h6⟩ => c ⟨j, h3, h6⟩)))
  subst hj
  refine sc_in (d := d + 1) hp (by omega) (fun i hi hij => am_back (v178_25 hp ?_)) (fun c => am_thru rfl (kk0 (fun ⟨s, i, j', h1, h2, h3, h4, h5, h6⟩ => c ⟨i, h2, by
    have := (ni_inj (by omega) (by omega)).mp h3
    omega⟩)))
  exact kk1 s i j hs hi rfl h8 hij hjn
end GRD
/-- the rules in use hang on their own objects -/
theorem cRs.mid {r : Nat} (hr : r = 16 ∨ r = 55) {I I' : am_I} {J J' : am_J} {w : Nat → Int32} (hG : WG w) (h : cRs r I J w) (f : ∀ o k, r ≤ o → o < r + 39 → I' o k = I o k) (g : ∀ o, o < 112 → J' o = J o) : cRs r I' J' w := by
  have w0' := hG.1.1.2
  have hrr : r ≤ 55 := by omega
  obtain ⟨h1, ⟨a1, a2, a3⟩, ⟨a4, a5⟩, a6, a7, ⟨a8, a9⟩, a10⟩ := h
  refine ⟨h1.of f (fun c hc => g _ (by unfold cO; split <;> omega)), ⟨fun s h8 t ht => by rw [f _ _ (by omega) (by omega)]; exact a1 s h8 t ht, fun s h8 t ht => by rw [f _ _ (by omega) (by omega)]; exact a2 s h8 t ht, fun s h8 t ht => by rw [f _ _ (by omega) (by omega)]; exact a3 s h8 t ht⟩, ⟨fun s h8 => by rw [f _ _ (by omega) (by omega)]; exact a4 s h8, by rw [f _ _ (by omega) (by omega)]; exact a5⟩, fun t ht => by rw [f _ _ (by omega) (by omega)]; exact a6 t ht, fun s h8 => ⟨fun k hk => by rw [sgD_o (g _ (by omega))]; exact (a7 s h8).1 k hk, sgT_o (g _ (by omega)) (a7 s h8).2⟩, ⟨fun k hk => by rw [sgD_o (g _ (by omega))]; exact a8 k hk, sgT_o (g _ (by omega)) a9⟩, fun c hc t ht => by rw [f _ _ (by omega) (by omega)]; exact a10 c hc t ht⟩
/-- the class's state, as far as questions of the text go -/
def cQ (r : Nat) (I : am_I) (J : am_J) (w : Nat → Int32) (T : TX) : Prop := cRs r I J w ∧ cTx 135 I T ∧ txOK T ∧ cKp I J w ∧ (I 0 12 = 0 ∨ (cTb 135 I w 3 T ∧ (I 145 2 = 0 ∨ cMd I T.1 (HHx w 3 T)) ∧ cGs I w 3 T))
/-- what a question may change -/
def cQf (I I' : am_I) : Prop := ∀ o k, ¬ (o = 0 ∧ (k = 12 ∨ k = 17)) → o ≠ 97 → o ≠ 101 → ¬ (112 ≤ o ∧ o ≤ 134) → ¬ (137 ≤ o ∧ o ≤ 153) → I' o k = I o k
def cQj (J J' : am_J) : Prop := ∀ o, ¬ (112 ≤ o ∧ o ≤ 119) → J' o = J o
theorem cQf.trans {I I' I'' : am_I} (h : cQf I I') (g : cQf I' I'') : cQf I I'' := fun o k e1 e2 e3 e4 e5 => (g o k e1 e2 e3 e4 e5).trans (h o k e1 e2 e3 e4 e5)
theorem cQf.rfl' {I : am_I} : cQf I I := fun _ _ _ _ _ _ _ => rfl
theorem cQj.trans {J J' J'' : am_J} (h : cQj J J') (g : cQj J' J'') : cQj J J'' := fun o e => (g o e).trans (h o e)
theorem cQj.rfl' {J : am_J} : cQj J J := fun _ _ => rfl
theorem cJf.q {J J' : am_J} (h : cJf J J') : cQj J J' := fun o e => h o (by omega)
/-- what is known of the text -/
def cKw (r : Nat) (I : am_I) (J : am_J) (w : Nat → Int32) (T : TX) : Prop := cRs r I J w ∧ cTb 135 I w 3 T ∧ txOK T ∧ cKp I J w ∧ (I 145 2 = 0 ∨ cMd I T.1 (HHx w 3 T)) ∧ cGs I w 3 T
theorem cKw.q {r : Nat} {I : am_I} {J : am_J} {w : Nat → Int32} {T : TX} (h : cKw r I J w T) : cQ r I J w T := ⟨h.1, h.2.1.1, h.2.2.1, h.2.2.2.1, Or.inr ⟨h.2.1, h.2.2.2.2⟩⟩
section LOK
variable {P : am_O → Prop} {J : am_J} {Pf : am_R} {T : TX} {w : Nat → Int32} {r : Nat}
theorem sc_look (hp : am_PF Pf) (hr : r = 16 ∨ r = 55) (hF : cFn Pf r) (hG : WG w) (hs : sndW w) {I : am_I} (hQ : cQ r I J w T) {D : Nat} (hD : 110 ≤ D) (kk : ∀ I' J', cKw r I' J' w T → ¬ I' 0 12 = 0 → (∀ o k, ¬ (o = 0 ∧ k = 12) → ¬ (112 ≤ o ∧ o ≤ 134) → ¬ (137 ≤ o ∧ o ≤ 139) → o ≠ 145 → I' o k = I o k) → cJf J J' → P (.inl none, (am_SH, I', J', Pf), 0, 0)) : am_mth D 180 [.ref 0] (am_SH, I, J, Pf) P := by
  obtain ⟨D', rfl⟩ : ∃ D', D = D' + 3 := ⟨D - 3, by omega⟩
  obtain ⟨h1, h2, h3, h4, h5⟩ := hQ
  have h24 := h2.2.1
  refine am_mth_of rfl rfl (v180_0 hp ?_)
  by_cases c0 : I 0 12 = 0
  · rw [if_pos c0, h2.1, show (0 : Int32) = ni 0 from rfl]
    refine cFIL_all hp hr hF hG hs 3 0 rfl _ (D' + 2) 135 T.1 I J T (by omega) rfl (by omega) (Or.inr (by omega)) h1 h2 h3 h4 (Nat.le_refl _) (fun i a b => absurd a (by omega)) (fun I1 J1 a1 a2 a3 a4 => am_back (v180_27 hp ?_))
    refine am_mth_of rfl rfl (v123_0 hp (am_back (v180_34 hp ?_)))
    have hfr : ∀ o k, ¬ (o = 0 ∧ k = 12) → ¬ (112 ≤ o ∧ o ≤ 134) → ¬ (137 ≤ o ∧ o ≤ 139) → o ≠ 145 → (am_u (am_u (am_u I1 145 2 0) 145 6 (-1)) 0 12 1) o k = I o k := fun o k e1 e2 e3 e4 => by
      rw [am_u_nq (by omega), am_u_nq (by omega), am_u_nq (by omega)]
      exact a3 o k (by omega) (by omega) (by omega) (by omega) (by omega) (by omega)
    refine kk _ J1 ⟨h1.mid hr hG (fun o k ho1 ho2 => hfr o k (by omega) (by omega) (by omega) (by omega)) (fun o ho => a4 o (by omega)), a1.of (fun o y e1 e2 => by rw [am_u_nq (by omega), am_u_nq (by omega), am_u_nq (by omega)]), h3, a2.of (fun k => by rw [am_u_nq (by omega), am_u_nq (by omega), am_u_nq (by omega)]) rfl, Or.inl ?_, fun s i j s8 hij hj hpos e1 => ?_⟩ ?_ hfr a4
    · rw [am_u_nq (by omega), am_u_nq (by omega)]; exact am_u_same
    · rw [am_u_nq (by omega), am_u_same] at e1
      exact absurd e1.symm (ni_neg1 (by omega))
    · rw [am_u_same]; decide
  · rw [if_neg c0]
    rcases h5 with z | ⟨g1, g2, g3⟩
    · exact absurd z c0
    · exact kk I J ⟨h1, g1, h3, h4, g2, g3⟩ c0 (fun _ _ _ _ _ _ => rfl) (fun _ _ => rfl)
end LOK
