/-! The class's trees: nodes that wait -/
def ndA (I : am_I) (x : Nat) (n : ND) : Prop := I 150 (4 * x) = ni n.1 ∧ I 150 (4 * x + 1) = ni n.2.1 ∧ I 150 (4 * x + 2) = ni n.2.2.1 ∧ I 150 (4 * x + 3) = ni n.2.2.2
/-- the nodes that wait, the next one last -/
def cWt (I : am_I) (A : List ND) : Prop := I 145 12 = ni A.length ∧ ∀ x n, A[x]? = some n → ndA I x n
theorem ndA.of {I I' : am_I} {x : Nat} {n : ND} (h : ndA I x n) (f : ∀ y, y < 4 → I' 150 (4 * x + y) = I 150 (4 * x + y)) : ndA I' x n := by
  have f0 := f 0 (by omega)
  rw [Nat.add_zero] at f0
  exact ⟨f0.trans h.1, (f 1 (by omega)).trans h.2.1, (f 2 (by omega)).trans h.2.2.1, (f 3 (by omega)).trans h.2.2.2⟩
theorem m1_le {c : Nat} (h : c < 2147483648) : ni 0 - 1 ≤ ni c := by
  rw [Int32.le_iff_toInt_le, ni_int h]
  have : (ni 0 - 1).toInt = -1 := by decide
  omega
section TRN
variable {d : Nat} {P : am_O → Prop} {J : am_J} {Pf : am_R} {T : TX} {w : Nat → Int32} {r : Nat}
/-- a stretch of nodes turned round -/
theorem sc_turnround (hp : am_PF Pf) {I : am_I} {a n : Nat} (hn : a + n ≤ 601)
    (kk : ∀ I', (∀ x y, a ≤ x → x < a + n → y < 4 → I' 150 (4 * x + y) = I 150 (4 * (2 * a + n - 1 - x) + y)) → (∀ x y, ¬ (a ≤ x ∧ x < a + n) → y < 4 → I' 150 (4 * x + y) = I 150 (4 * x + y)) → (∀ o k, o ≠ 150 → I' o k = I o k) → P (.inl none, (am_SH, I', J, Pf), 0, 0)) : am_mth (d + 1) 136 [.ref 145, .int (ni a), .int (ni (a + n) - 1)] (am_SH, I, J, Pf) P := by
  by_cases h0 : n = 0
  · subst h0
    refine am_mth_of rfl rfl (v136_0 hp (v136_5 hp ?_))
    have : ni (a + 0) - 1 ≤ ni a := by
      by_cases ha : a = 0
      · subst ha; decide
      · rw [show ni (a + 0) - 1 = ni (a - 1) from ni_sub (a := a) (b := 1) (by omega)]
        exact (ni_le (by omega) (by omega)).mpr (by omega)
    rw [if_pos this]
    exact kk I (fun x y h1 h2 => absurd h2 (by omega)) (fun _ _ _ _ => rfl) (fun _ _ _ => rfl)
  have e1 : ni (a + n) - 1 = ni (a + n - 1) := ni_sub (b := 1) (by omega)
  rw [e1]
  -- the four numbers of two nodes
  have LY : ∀ (m y t : Nat) (I1 : am_I) (l1 l2 l6 : Option Value), am_k1 l2 = true → 4 - y = m → y ≤ 4 → 2 * t + 1 < n → (∀ x z, a ≤ x → x < a + n → z < 4 → I1 150 (4 * x + z) = if x < a + t ∨ a + n - t ≤ x ∨ ((x = a + t ∨ x = a + n - 1 - t) ∧ z < y) then I 150 (4 * (2 * a + n - 1 - x) + z) else I 150 (4 * x + z)) → (∀ x z, ¬ (a ≤ x ∧ x < a + n) → z < 4 → I1 150 (4 * x + z) = I 150 (4 * x + z)) → (∀ o k, o ≠ 150 → I1 o k = I o k) → (∀ I' l5 l6, (∀ x z, a ≤ x → x < a + n → z < 4 → I' 150 (4 * x + z) = if x < a + (t + 1) ∨ a + n - (t + 1) ≤ x then I 150 (4 * (2 * a + n - 1 - x) + z) else I 150 (4 * x + z)) → (∀ x z, ¬ (a ≤ x ∧ x < a + n) → z < 4 → I' 150 (4 * x + z) = I 150 (4 * x + z)) → (∀ o k, o ≠ 150 → I' o k = I o k) → am_go none d 136 (5, [some (.ref 145), l1, l2, some (.int (ni (a + (t + 1)))), some (.int (ni (a + n - 1 - t) + -1)), l5, l6], [], (am_SH, I', J, Pf), 0, 0) P) → am_go none d 136 (14, [some (.ref 145), l1, l2, some (.int (ni (a + t))), some (.int (ni (a + n - 1 - t))), some (.int (ni y)), l6], [], (am_SH, I1, J, Pf), 0, 0) P := by
    intro m
    induction m with
    | zero =>
      intro y t I1 l1 l2 l6 h2 hm hy ht hA hB hf kk
      have : y = 4 := by omega
      subst this
      refine v136_14 hp h2 ?_
      rw [if_pos ((gle 4 (by omega) (by omega)).mpr (by omega)), ni_p1, Nat.add_assoc a t 1]
      refine kk I1 _ _ (fun x z h1 h2 h3 => ?_) hB hf
      rw [hA x z h1 h2 h3]
      by_cases c : x < a + (t + 1) ∨ a + n - (t + 1) ≤ x
      · rw [if_pos c, if_pos (by omega)]
      · rw [if_neg c, if_neg (by omega)]
    | succ m ih =>
      intro y t I1 l1 l2 l6 h2 hm hy ht hA hB hf kk
      refine v136_14 hp h2 ?_
      have ea : (ni ((a + t) * 4 + y)).toNatClampNeg = 4 * (a + t) + y := by rw [ni_nat (by omega)]; omega
      have eb : (ni ((a + n - 1 - t) * 4 + y)).toNatClampNeg = 4 * (a + n - 1 - t) + y := by rw [ni_nat (by omega)]; omega
      rw [if_neg (fun z => absurd ((gle 4 (by omega) (by omega)).mp z) (by omega)), show (4 : Int32) = ni 4 from rfl, ni_mul, ni_mul, ni_add, ni_add, ea, eb, ni_p1]
      have b1 : am_in (ni ((a + t) * 4 + y)) 2404 = true := ni_in (by omega) (by omega)
      have b2' : am_in (ni ((a + n - 1 - t) * 4 + y)) 2404 = true := ni_in (by omega) (by omega)
      refine ⟨b1, b2', b1, b2', ih (y + 1) t _ _ _ _ h2 (by omega) (by omega) ht (fun x z h1 h2 h3 => ?_) (fun x z h1 h3 => by rw [am_u_nq (by omega), am_u_nq (by omega)]; exact hB x z h1 h3) (fun o k e => by rw [am_u_nq (by omega), am_u_nq (by omega)]; exact hf o k e) kk⟩
      have hlo := hA (a + t) y (by omega) (by omega) (by omega)
      have hhi := hA (a + n - 1 - t) y (by omega) (by omega) (by omega)
      rw [if_neg (by omega)] at hlo hhi
      by_cases c1 : x = a + n - 1 - t ∧ z = y
      · obtain ⟨rfl, rfl⟩ := c1
        rw [am_u_same, hlo, if_pos (by omega), show 2 * a + n - 1 - (a + n - 1 - t) = a + t by omega]
      · rw [am_u_nq (by omega)]
        by_cases c2 : x = a + t ∧ z = y
        · obtain ⟨rfl, rfl⟩ := c2
          rw [am_u_same, hhi, if_pos (by omega), show 2 * a + n - 1 - (a + t) = a + n - 1 - t by omega]
        · rw [am_u_nq (by omega), hA x z h1 h2 h3]
          by_cases c3 : x < a + t ∨ a + n - t ≤ x ∨ ((x = a + t ∨ x = a + n - 1 - t) ∧ z < y)
          · rw [if_pos c3, if_pos (by omega)]
          · rw [if_neg c3, if_neg (by omega)]
  have LT : ∀ (m t : Nat) (I1 : am_I) (l1 l2 l5 l6 : Option Value) (v : Int32), am_k1 l2 = true → n - 2 * t ≤ m → v = ni (a + n - t) - 1 → 2 * t ≤ n + 1 → t ≤ n → (∀ x z, a ≤ x → x < a + n → z < 4 → I1 150 (4 * x + z) = if x < a + t ∨ a + n - t ≤ x then I 150 (4 * (2 * a + n - 1 - x) + z) else I 150 (4 * x + z)) → (∀ x z, ¬ (a ≤ x ∧ x < a + n) → z < 4 → I1 150 (4 * x + z) = I 150 (4 * x + z)) → (∀ o k, o ≠ 150 → I1 o k = I o k) → am_go none d 136 (5, [some (.ref 145), l1, l2, some (.int (ni (a + t))), some (.int v), l5, l6], [], (am_SH, I1, J, Pf), 0, 0) P := by
    intro m
    induction m with
    | zero =>
      intro t I1 l1 l2 l5 l6 v h2 hm hv ht htn hA hB hf
      have ev : v ≤ ni (a + t) := by
        by_cases c : a + n - t = 0
        · rw [hv, c]
          exact m1_le (by omega)
        · rw [hv, show ni (a + n - t) - 1 = ni (a + n - t - 1) from ni_sub (b := 1) (by omega)]
          exact (ni_le (by omega) (by omega)).mpr (by omega)
      refine v136_5 hp ?_
      rw [if_pos ev]
      refine kk I1 (fun x y h1 h2 h3 => ?_) hB hf
      rw [hA x y h1 h2 h3, if_pos (by omega)]
    | succ m ih =>
      intro t I1 l1 l2 l5 l6 v h2 hm hv ht htn hA hB hf
      by_cases c : 2 * t + 1 < n
      · have ev : v = ni (a + n - 1 - t) := by
          rw [hv, show ni (a + n - t) - 1 = ni (a + n - t - 1) from ni_sub (b := 1) (by omega)]
          congr 1
          omega
        subst ev
        refine v136_5 hp ?_
        rw [if_neg (fun z => absurd ((ni_le (by omega) (by omega)).mp z) (by omega)), show (0 : Int32) = ni 0 from rfl]
        refine LY _ 0 t I1 _ _ _ h2 rfl (by omega) c (fun x z h1 h2 h3 => ?_) hB hf (fun I' l5 l6 a1 a2 a3 => ih (t + 1) I' _ _ _ _ _ h2 (by omega) ?_ (by omega) (by omega) a1 a2 a3)
        · rw [hA x z h1 h2 h3]
          by_cases c3 : x < a + t ∨ a + n - t ≤ x
          · rw [if_pos c3, if_pos (by omega)]
          · rw [if_neg c3, if_neg (by omega)]
        · rw [← Int32.sub_eq_add_neg]
          congr 2
          omega
      · refine v136_5 hp ?_
        have ev : v ≤ ni (a + t) := by
          by_cases c4 : a + n - t = 0
          · rw [hv, c4]
            exact m1_le (by omega)
          · rw [hv, show ni (a + n - t) - 1 = ni (a + n - t - 1) from ni_sub (b := 1) (by omega)]
            exact (ni_le (by omega) (by omega)).mpr (by omega)
        rw [if_pos ev]
        refine kk I1 (fun x y h1 h2 h3 => ?_) hB hf
        rw [hA x y h1 h2 h3]
        by_cases c3 : x < a + t ∨ a + n - t ≤ x
        · rw [if_pos c3]
        · rw [if_neg c3, show 2 * a + n - 1 - x = x by omega]
  refine am_mth_of rfl rfl (v136_0 hp ?_)
  exact LT _ 0 I _ _ _ _ _ rfl (Nat.le_refl _) (by rw [Nat.sub_zero]; exact e1.symm) (by omega) (by omega) (fun x z h1 h2 h3 => by rw [if_neg (by omega)]) (fun _ _ _ _ => rfl) (fun _ _ _ => rfl)
end TRN
