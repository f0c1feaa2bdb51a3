/-! Heights end; ways, the model -/
section STP
variable {w : Nat → Int32} {T : TX} {Q : Nat → Nat → Nat → Prop} {H : Nat → Nat → Nat → Nat}
/-- where one height is wanting, none is above -/
theorem sol_stop (hG : WG w) (hS : Sol w T Q 0 H) {h : Nat} (hn : ∀ s i j, s < 8 → i ≤ j → j ≤ T.1 → H s i j ≠ h + 1) : ∀ s i j, s < 8 → i ≤ j → j ≤ T.1 → H s i j ≤ h := by
  have key : ∀ m s i j, s < 8 → i ≤ j → j ≤ T.1 → lo H (h + m) s i j → lo H h s i j := by
    intro m
    induction m with
    | zero => intro s i j _ _ _ z; exact z
    | succ m ih =>
      intro s i j h8 hij hj z
      obtain ⟨z1, z2⟩ := (hS s i j h8 (Nat.zero_le _) hij hj (h + m)).mp z
      have := (hS s i j h8 (Nat.zero_le _) hij hj h).mpr ⟨z1, stp_tr hG txQ.rfl' (Nat.zero_le _) (by omega) (fun q _ z => z) (fun t ht _ b e _ b2 b3 => ih t b e ht b2 b3) z2⟩
      have n1 := hn s i j h8 hij hj
      unfold lo at *
      omega
  intro s i j h8 hij hj
  by_cases c : H s i j = 0
  · omega
  · have := key (H s i j) s i j h8 hij hj ⟨by omega, by omega⟩
    exact this.2
theorem sol_bd (hG : WG w) (hT : T.1 ≤ 24) (hS : Sol w T Q 0 H) : ∀ s i j, s < 8 → i ≤ j → j ≤ T.1 → H s i j ≤ 5000 := by
  intro s i j h8 hij hj
  -- as many cells as heights
  have key : ∀ h, h ≤ H s i j → h ≤ cntN (fun c => decide (c / 625 < 8 ∧ c % 625 / 25 ≤ c % 25 ∧ c % 25 ≤ T.1 ∧ 0 < H (c / 625) (c % 625 / 25) (c % 25) ∧ H (c / 625) (c % 625 / 25) (c % 25) ≤ h)) 5000 := by
    intro h
    induction h with
    | zero => intro _; exact Nat.zero_le _
    | succ h ih =>
      intro hh
      have a := ih (by omega)
      by_cases c : ∀ s i j, s < 8 → i ≤ j → j ≤ T.1 → H s i j ≠ h + 1
      · have := sol_stop hG hS c s i j h8 hij hj
        omega
      · obtain ⟨s', i', j', b1, b2, b3, b4⟩ : ∃ s' i' j', s' < 8 ∧ i' ≤ j' ∧ j' ≤ T.1 ∧ H s' i' j' = h + 1 := Classical.byContradiction (fun z => c (fun s i j b1 b2 b3 b4 => z ⟨s, i, j, b1, b2, b3, b4⟩))
        refine Nat.lt_of_le_of_lt a (cntN_lt 5000 (fun t _ z => ?_) ⟨625 * s' + 25 * i' + j', by omega, decide_eq_false ?_, decide_eq_true ?_⟩)
        · have := of_decide_eq_true z
          exact decide_eq_true ⟨this.1, this.2.1, this.2.2.1, this.2.2.2.1, by omega⟩
        · rw [show (625 * s' + 25 * i' + j') / 625 = s' by omega, show (625 * s' + 25 * i' + j') % 625 / 25 = i' by omega, show (625 * s' + 25 * i' + j') % 25 = j' by omega, b4]
          omega
        · rw [show (625 * s' + 25 * i' + j') / 625 = s' by omega, show (625 * s' + 25 * i' + j') % 625 / 25 = i' by omega, show (625 * s' + 25 * i' + j') % 25 = j' by omega, b4]
          omega
  have := key _ (Nat.le_refl _)
  have b := cntN_le (fun c => decide (c / 625 < 8 ∧ c % 625 / 25 ≤ c % 25 ∧ c % 25 ≤ T.1 ∧ 0 < H (c / 625) (c % 625 / 25) (c % 25) ∧ H (c / 625) (c % 625 / 25) (c % 25) ≤ H s i j)) 5000
  omega
end STP
/-- if it holds x, else y -/
noncomputable def cif {α : Type} (c : Prop) (x y : α) : α := @ite _ c (Classical.propDecidable c) x y
theorem cif_t {α : Type} {c : Prop} {x y : α} (h : c) : cif c x y = x := @if_pos c (Classical.propDecidable c) h _ _ _
theorem cif_f {α : Type} {c : Prop} {x y : α} (h : ¬ c) : cif c x y = y := @if_neg c (Classical.propDecidable c) h _ _ _
/-- a sum from i on -/
def smI (f : Nat → Int32) (i : Nat) : Nat → Int32
  | 0 => 0
  | m + 1 => smI f i m + f (i + m)
section WYS
variable (w : Nat → Int32) (T : TX) (S : Nat → Nat → Nat → Prop)
/-- by how many rows of places a production comes to e, all of them up to j -/
noncomputable def rwM (p i j : Nat) : Nat → Nat → Int32
  | 0, e => if e = i then 1 else 0
  | k + 1, e => smI (fun a => cif (prE w T S p k (bgW w T p k a) e) (rwM p i j k a) 0) i (j + 1 - i)
noncomputable def wyP (s i j : Nat) : Nat → Int32
  | 0 => 0
  | p + 1 => if wN w (32 + 3 * p) = s then wyP s i j p + rwM w T S p i j (wN w (32 + 3 * p + 2)) j else wyP s i j p
noncomputable def wyQ (Q : Nat → Nat → Nat → Prop) (s i j : Nat) : Nat → Int32
  | 0 => wyP w T S s i j (wN w 1)
  | q + 1 => cif (wN w (972 + 5 * q) = s ∧ Q q i j) (wyQ Q s i j q + 1) (wyQ Q s i j q)
/-- WAYS -/
noncomputable def wyM (Q : Nat → Nat → Nat → Prop) (s i j : Nat) : Int32 := if 9999 < wyQ w T S Q s i j (wN w 2) then 9999 else wyQ w T S Q s i j (wN w 2)
end WYS
