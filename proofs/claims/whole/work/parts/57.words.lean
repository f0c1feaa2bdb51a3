/-! The reader: words -/
/-- a word's signs from a place on, the place behind them, whether no fault ends them -/
def wdL (b : Nat → Int32) (n : Nat) : Nat → Nat → List Int32 × Nat × Bool
  | 0, a => ([], a, true)
  | f + 1, a => if a < n ∧ b a ≠ 39 then (if sgOk b n 1 a = true then (hv b n (sgA b n a) :: (wdL b n f (sgA b n a + 1)).1, (wdL b n f (sgA b n a + 1)).2) else ([], sgA b n a, false)) else ([], a, true)
theorem wdL_le {b : Nat → Int32} {n : Nat} : ∀ (f a : Nat), a ≤ n → (wdL b n f a).2.1 ≤ n
  | 0, a, h => h
  | f + 1, a, h => by
    unfold wdL
    split
    · split
      · rename_i h1
        exact wdL_le f _ (sgOk_lt h1)
      · exact (sgA_le h).2
    · exact h
theorem wdL_len {b : Nat → Int32} {n : Nat} : ∀ (f a : Nat), a ≤ n → a + (wdL b n f a).1.length ≤ n
  | 0, a, h => h
  | f + 1, a, h => by
    unfold wdL
    split
    · split
      · rename_i h1
        have h2 := wdL_len (b := b) f (sgA b n a + 1) (sgOk_lt h1)
        have h3 := sgA_le (b := b) h
        simp only [List.length_cons]
        omega
      · exact h
    · exact h
/-- one row of a world, anew -/
def am_rw (I : am_I) (o : Nat) (r : Nat → Int32) : am_I := fun o' => if o' = o then r else I o'
/-- a row with a word's signs from a place on -/
def wrow (r : Nat → Int32) (q : Nat) (l : List Int32) : Nat → Int32 := fun i => if q ≤ i ∧ i < q + min l.length 8 then l.getD (i - q) 0 else r i
theorem wrow_nil (r : Nat → Int32) (q : Nat) : wrow r q [] = r := by
  funext i
  unfold wrow
  exact if_neg (fun h => by have := h.2; simp at this; omega)
theorem am_rw_o {I : am_I} {o o' : Nat} {r : Nat → Int32} (h : o' ≠ o) : am_rw I o r o' = I o' := if_neg h
theorem am_rw_s {I : am_I} {o : Nat} {r : Nat → Int32} : am_rw I o r o = r := if_pos rfl
theorem am_rw_self {I : am_I} {o : Nat} : am_rw I o (I o) = I := by
  funext o'
  unfold am_rw
  split
  · rename_i h; rw [h]
  · rfl
theorem am_rw_u {I : am_I} {o o' k : Nat} {r : Nat → Int32} {v : Int32} (h : o' ≠ o) : am_u (am_rw I o r) o' k v = am_rw (am_u I o' k v) o r := by
  funext a i
  unfold am_u am_rw
  by_cases h1 : a = o
  · subst h1
    rw [if_neg (fun e => h e.symm)]
    simp
  · simp [h1]
theorem am_rw_st {I : am_I} {o k : Nat} {r : Nat → Int32} {v : Int32} : am_u (am_rw I o r) o k v = am_rw I o (fun i => if i = k then v else r i) := by
  funext a i
  unfold am_u am_rw
  by_cases h1 : a = o
  · simp [h1]
  · simp [h1]
theorem wrow_snoc {r : Nat → Int32} {q : Nat} {l : List Int32} {x : Int32} (h : l.length < 8) : (fun i => if i = q + l.length then x else wrow r q l i) = wrow r q (l ++ [x]) := by
  funext i
  unfold wrow
  by_cases h1 : i = q + l.length
  · subst h1
    rw [if_pos rfl, if_pos (by simp; omega)]
    simp [List.getD_eq_getElem?_getD]
  · rw [if_neg h1]
    by_cases h2 : q ≤ i ∧ i < q + min l.length 8
    · rw [if_pos h2, if_pos (by simp; omega)]
      simp only [List.getD_eq_getElem?_getD]
      rw [List.getElem?_append_left (by omega)]
    · rw [if_neg h2, if_neg (by simp; omega)]
theorem wrow_more {r : Nat → Int32} {q : Nat} {l : List Int32} {x : Int32} (h : 8 ≤ l.length) : wrow r q (l ++ [x]) = wrow r q l := by
  funext i
  unfold wrow
  by_cases h2 : q ≤ i ∧ i < q + min l.length 8
  · rw [if_pos h2, if_pos (by simp; omega)]
    simp only [List.getD_eq_getElem?_getD]
    rw [List.getElem?_append_left (by omega)]
  · rw [if_neg h2, if_neg (by simp; omega)]
section SPW
variable {d : Nat} {P : am_O → Prop} {J : am_J} {Pf : am_R} {n o L q a0 : Nat}
theorem RD.rw {I : am_I} {n a o : Nat} {r : Nat → Int32} (h : RD I n a) (ho : o ≠ 1) : RD (am_rw I o r) n a := by
  obtain ⟨h1, h2, h3, h4⟩ := h
  have e : am_rw I o r 1 = I 1 := am_rw_o (fun e => ho e.symm)
  exact ⟨by rw [e]; exact h1, by rw [e]; exact h2, h3, h4⟩
/-- what a word comes to, at its last sign -/
def wdK (P : am_O → Prop) (J : am_J) (Pf : am_R) (n o q : Nat) (B : am_I) (r0 : Nat → Int32) (l : List Int32) (a : Nat) (ok : Bool) : Prop :=
  (ok = true → a < n → l ≠ [] → l.length ≤ 8 → P (.inl (some (.int (ni l.length))), (am_SH, am_rw (am_u B 1 3 (ni (a + 1))) o (wrow r0 q l), J, Pf), 0, 0)) ∧
  (ok = true → a < n → 8 < l.length → P (.inl (some (.int (-1))), (am_SH, rfail (am_rw (am_u B 1 3 (ni a)) o (wrow r0 q l)) 2 (ni a), J, Pf), 0, 0)) ∧
  ((ok = false ∨ n ≤ a ∨ l = []) → P (.inl (some (.int (-1))), (am_SH, rfail (am_rw (am_u B 1 3 (ni a)) o (wrow r0 q l)) 1 (ni a), J, Pf), 0, 0))
theorem rd_word (hp : am_PF Pf) (ho : am_SH[o]? = some (.inr (0, L))) (h1 : o ≠ 1) (h2 : o ≠ 2) (hq : q + 8 ≤ L) (hL : L < 2147483648) {B : am_I} {r0 : Nat → Int32} : ∀ (f a : Nat) (pre : List Int32) (l4 l5 : Option Value), n - a ≤ f → RD (am_u B 1 3 (ni a)) n a → pre.length + (n - a) ≤ 1000 →
    wdK P J Pf n o q B r0 (pre ++ (wdL (B 2) n f a).1) (wdL (B 2) n f a).2.1 (wdL (B 2) n f a).2.2 →
    am_go none (d + 3) 65 (23, [some (.ref 1), some (.ref o), some (.int (ni q)), some (.int (ni pre.length)), l4, l5], [], (am_SH, am_rw (am_u B 1 3 (ni a)) o (wrow r0 q pre), J, Pf), 0, 0) P := by
  have fin : ∀ (a : Nat) (pre : List Int32) (l1 l2 l4 l5 : Option Value), RD (am_u B 1 3 (ni a)) n a → pre.length ≤ 1000 → wdK P J Pf n o q B r0 pre a true → am_go none (d + 3) 65 (93, [some (.ref 1), l1, l2, some (.int (ni pre.length)), l4, l5], [], (am_SH, am_rw (am_u B 1 3 (ni a)) o (wrow r0 q pre), J, Pf), 0, 0) P := by
    intro a pre l1 l2 l4 l5 h hlen kk
    obtain ⟨k1, k2, k3⟩ := kk
    have hR := h.rw (o := o) (r := wrow r0 q pre) h1
    have g3 := hR.2.2.1
    have g4 := hR.2.2.2
    have c0 : (am_rw (am_u B 1 3 (ni a)) o (wrow r0 q pre) 1 2 ≤ am_rw (am_u B 1 3 (ni a)) o (wrow r0 q pre) 1 3) ↔ n ≤ a := by rw [hR.1, hR.2.1, ni_le (by omega) (by omega)]
    have c1 : (ni pre.length = 0) ↔ pre = [] := by
      rw [ni_0, ni_inj (by omega) (by omega)]
      exact List.length_eq_zero_iff
    have c8 : (ni pre.length ≤ 8) ↔ pre.length ≤ 8 := ni_le (a := pre.length) (b := 8) (by omega) (by omega)
    have bad : ∀ x4 : Int32, (x4 = 0 → n ≤ a) → (x4 ≠ 0 → a < n ∧ (pre = [] ∨ 8 < pre.length)) → am_go none (d + 3) 65 (126, [some (.ref 1), l1, l2, some (.int (ni pre.length)), some (.int x4), l5], [], (am_SH, am_rw (am_u B 1 3 (ni a)) o (wrow r0 q pre), J, Pf), 0, 0) P := by
      intro x4 y1 y2
      refine t65_126 hp (fun c => ?_) (fun c c' => ?_) (fun c c' => ?_)
      · rw [hR.2.1]
        exact sp_rd_fail hp (am_back (t65_150 hp (k3 (Or.inr (Or.inl (y1 c))))))
      · rw [hR.2.1]
        have : pre = [] := by
          rcases (y2 c).2 with z | z
          · exact z
          · have := c8.mp c'; omega
        exact sp_rd_fail hp (am_back (t65_150 hp (k3 (Or.inr (Or.inr this)))))
      · rw [hR.2.1]
        have : 8 < pre.length := by
          have := mt c8.mpr c'
          omega
        exact sp_rd_fail hp (am_back (t65_150 hp (k2 rfl (y2 c).1 this)))
    refine t65_93 hp (fun c => bad 0 (fun _ => c0.mp c) (fun z => absurd rfl z)) (fun c c' => bad 1 (fun z => absurd z (by decide)) (fun _ => ⟨by have := mt c0.mpr c; omega, Or.inl (c1.mp c')⟩)) (fun c c' c'' => ?_) (fun c c' c'' => bad 1 (fun z => absurd z (by decide)) (fun _ => ⟨by have := mt c0.mpr c; omega, Or.inr (by have := mt c8.mpr c''; omega)⟩))
    rw [hR.2.1, ni_1, ni_add, am_rw_u (fun e => h1 e.symm), am_u_u]
    exact k1 rfl (by have := mt c0.mpr c; omega) (mt c1.mpr c') (c8.mp c'')
  intro f
  induction f with
  | zero =>
    intro a pre l4 l5 hf h hlen kk
    have hR := h.rw (o := o) (r := wrow r0 q pre) h1
    have g3 := hR.2.2.1
    have g4 := hR.2.2.2
    have e : wdL (B 2) n 0 a = ([], a, true) := rfl
    rw [e, List.append_nil] at kk
    have c0 : am_rw (am_u B 1 3 (ni a)) o (wrow r0 q pre) 1 2 ≤ am_rw (am_u B 1 3 (ni a)) o (wrow r0 q pre) 1 3 := by rw [hR.1, hR.2.1, ni_le (by omega) (by omega)]; omega
    exact t65_23 hp ho (fun _ => fin a pre _ _ _ _ h (by omega) kk) (fun c => absurd c0 c)
  | succ f ih =>
    intro a pre l4 l5 hf h hlen kk
    have hR := h.rw (o := o) (r := wrow r0 q pre) h1
    have g3 := hR.2.2.1
    have g4 := hR.2.2.2
    have eb : am_rw (am_u B 1 3 (ni a)) o (wrow r0 q pre) 2 = B 2 := by rw [am_rw_o (fun e => h2 e.symm), am_u_o (by omega)]
    by_cases hn : n ≤ a
    · have e : wdL (B 2) n (f + 1) a = ([], a, true) := if_neg (by omega)
      rw [e, List.append_nil] at kk
      have c0 : am_rw (am_u B 1 3 (ni a)) o (wrow r0 q pre) 1 2 ≤ am_rw (am_u B 1 3 (ni a)) o (wrow r0 q pre) 1 3 := by rw [hR.1, hR.2.1, ni_le (by omega) (by omega)]; omega
      exact t65_23 hp ho (fun _ => fin a pre _ _ _ _ h (by omega) kk) (fun c => absurd c0 c)
    · have c0 : ¬ (am_rw (am_u B 1 3 (ni a)) o (wrow r0 q pre) 1 2 ≤ am_rw (am_u B 1 3 (ni a)) o (wrow r0 q pre) 1 3) := by rw [hR.1, hR.2.1, ni_le (by omega) (by omega)]; omega
      refine t65_23 hp ho (fun c => absurd c c0) (fun _ => sp_rd_here hp hR (am_back ?_))
      rw [eb, show hv (B 2) n a = B 2 a from if_pos (by omega)]
      by_cases c : B 2 a = 39
      · have e : wdL (B 2) n (f + 1) a = ([], a, true) := if_neg (fun z => z.2 c)
        rw [e, List.append_nil] at kk
        exact t65_38 hp ho (fun _ => fin a pre _ _ _ _ h (by omega) kk) (fun z => absurd c z)
      · refine t65_38 hp ho (fun z => absurd z c) (fun _ => sp_rd_takeSign hp hR (fun hs => am_back ?_) (fun hs => am_back ?_))
        · rw [eb] at hs ⊢
          have e : wdL (B 2) n (f + 1) a = (hv (B 2) n (sgA (B 2) n a) :: (wdL (B 2) n f (sgA (B 2) n a + 1)).1, (wdL (B 2) n f (sgA (B 2) n a + 1)).2) := (if_pos ⟨by omega, c⟩).trans (if_pos hs)
          rw [e] at kk
          have hA := sgA_le (b := B 2) g3
          have hA2 := sgOk_lt hs
          have hx : hv (B 2) n (sgA (B 2) n a) ≠ -1 := by
            intro z
            rw [show hv (B 2) n (sgA (B 2) n a) = B 2 (sgA (B 2) n a) from if_pos hA2] at z
            unfold sgOk at hs
            unfold sgA at z hA2
            split at hs
            · rename_i h9
              rw [if_pos h9] at z hA2
              rw [show hv (B 2) n (a + 1) = B 2 (a + 1) from if_pos hA2, z] at hs
              exact absurd hs (by decide)
            · rename_i h9
              rw [if_neg h9] at z hA2
              rw [show hv (B 2) n a = B 2 a from if_pos hA2, z] at hs
              exact absurd hs (by decide)
          have eu : am_u (am_rw (am_u B 1 3 (ni a)) o (wrow r0 q pre)) 1 3 (ni (sgA (B 2) n a + 1)) = am_rw (am_u B 1 3 (ni (sgA (B 2) n a + 1))) o (wrow r0 q pre) := by rw [am_rw_u (fun e => h1 e.symm), am_u_u]
          rw [eu]
          have hR2 : RD (am_u B 1 3 (ni (sgA (B 2) n a + 1))) n (sgA (B 2) n a + 1) := by
            have := h.at (a' := sgA (B 2) n a + 1) hA2
            rw [am_u_u] at this
            exact this
          have nx : ∀ l4 l5, am_go none (d + 3) 65 (23, [some (.ref 1), some (.ref o), some (.int (ni q)), some (.int (ni (pre ++ [hv (B 2) n (sgA (B 2) n a)]).length)), l4, l5], [], (am_SH, am_rw (am_u B 1 3 (ni (sgA (B 2) n a + 1))) o (wrow r0 q (pre ++ [hv (B 2) n (sgA (B 2) n a)])), J, Pf), 0, 0) P := by
            intro l4 l5
            refine ih (sgA (B 2) n a + 1) (pre ++ [hv (B 2) n (sgA (B 2) n a)]) l4 l5 (by omega) hR2 (by simp; omega) ?_
            rw [List.append_assoc]
            exact kk
          rw [List.length_append, List.length_cons, List.length_nil] at nx
          have e8 : ((8 : Int32) ≤ ni pre.length) ↔ 8 ≤ pre.length := ni_le (a := 8) (b := pre.length) (by omega) (by omega)
          have e9 : ni q + ni pre.length = ni (q + pre.length) := ni_add _ _
          refine t65_48 hp ho (fun _ c8 => ?_) (fun _ c8 z => ?_) (fun _ c8 _ z => ?_) (fun _ c8 _ _ => ?_) (fun _ c8 _ _ => ?_) (fun z => absurd (Decidable.not_not.mp z) hx)
          · rw [ni_1, ni_add]
            rw [← wrow_more (x := hv (B 2) n (sgA (B 2) n a)) (e8.mp c8)]
            exact nx _ _
          · have := mt e8.mpr c8
            rw [e9] at z
            exact absurd z (ni_nonneg (by omega))
          · have := mt e8.mpr c8
            rw [e9] at z
            have z2 := (ni_le (a := L) (b := q + pre.length) hL (by omega)).mp z
            omega
          · have := mt e8.mpr c8
            rw [e9]
            exact ni_in (by omega) (by omega)
          · have h8 := mt e8.mpr c8
            rw [e9, ni_nat (by omega), ni_1, ni_add, am_rw_st, wrow_snoc (by omega)]
            exact nx _ _
        · rw [eb] at hs ⊢
          have e : wdL (B 2) n (f + 1) a = ([], sgA (B 2) n a, false) := (if_pos ⟨by omega, c⟩).trans (if_neg (by rw [hs]; decide))
          rw [e, List.append_nil] at kk
          refine t65_48 hp ho (fun z => absurd rfl z) (fun z => absurd rfl z) (fun z => absurd rfl z) (fun z => absurd rfl z) (fun z => absurd rfl z) (fun _ => ?_)
          rw [am_rw_u (fun e => h1 e.symm), am_u_u]
          exact kk.2.2 (Or.inl rfl)
theorem sp_rd_takeWord (hp : am_PF Pf) {I : am_I} {a : Nat} (h : RD I n a) (ho : am_SH[o]? = some (.inr (0, L))) (h1 : o ≠ 1) (h2 : o ≠ 2) (hq : q + 8 ≤ L) (hL : L < 2147483648)
    (k0 : hv (I 2) n (rsk (I 2) n a) ≠ 39 → P (.inl (some (.int (-1))), (am_SH, rfail (am_u I 1 3 (ni (rsk (I 2) n a))) 1 (ni (rsk (I 2) n a)), J, Pf), 0, 0))
    (k1 : hv (I 2) n (rsk (I 2) n a) = 39 → wdK P J Pf n o q (am_u I 1 9 (ni (rsk (I 2) n a))) (I o) (wdL (I 2) n (n - (rsk (I 2) n a + 1)) (rsk (I 2) n a + 1)).1 (wdL (I 2) n (n - (rsk (I 2) n a + 1)) (rsk (I 2) n a + 1)).2.1 (wdL (I 2) n (n - (rsk (I 2) n a + 1)) (rsk (I 2) n a + 1)).2.2) :
    am_mth (d + 4) 65 [.ref 1, .ref o, .int (ni q)] (am_SH, I, J, Pf) P := by
  have hr := rsk_le (b := I 2) h.2.2.1
  have h4 := h.2.2.2
  refine am_mth_of rfl rfl (t65_0 hp ho ?_)
  generalize hs : rsk (I 2) n a = s at *
  refine sp_rd_take hp h (by decide) (fun c => am_back ?_) (fun c => am_back ?_)
  · rw [hs] at c ⊢
    have hlt : s < n := hv_lt (b := I 2) (by rw [c]; decide)
    refine t65_6 hp ho (fun _ => ?_) (fun z => absurd (by decide) z)
    have e1 : am_u I 1 3 (ni (s + 1)) 1 3 - 1 = ni s := by
      rw [am_u_same, ni_1, ni_sub (by omega)]
      rfl
    have e3 : am_u (am_u I 1 3 (ni (s + 1))) 1 9 (ni s) = am_u (am_u I 1 9 (ni s)) 1 3 (ni (s + 1)) := am_u_sw (by omega)
    rw [e1, e3]
    have eo : (am_u (am_u I 1 9 (ni s)) 1 3 (ni (s + 1))) o = I o := by rw [am_u_o h1, am_u_o h1]
    have hrow : am_u (am_u I 1 9 (ni s)) 1 3 (ni (s + 1)) = am_rw (am_u (am_u I 1 9 (ni s)) 1 3 (ni (s + 1))) o (wrow (I o) q []) := by
      rw [wrow_nil, ← eo, am_rw_self]
    have e2 : (am_u I 1 9 (ni s)) 2 = I 2 := am_u_o (by omega)
    rw [hrow]
    have hR : RD (am_u (am_u I 1 9 (ni s)) 1 3 (ni (s + 1))) n (s + 1) := (h.oth (by omega) (by omega)).at hlt
    refine rd_word (pre := []) hp ho h1 h2 hq hL (n - (s + 1)) (s + 1) _ _ (Nat.le_refl _) hR (by simp; omega) ?_
    rw [e2]
    exact k1 c
  · rw [hs] at c ⊢
    exact t65_6 hp ho (fun z => absurd rfl z) (fun _ => k0 c)
end SPW
