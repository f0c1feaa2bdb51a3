/-! Eight sorts: rounds that grow, closures, layers -/
/-- how many of the first n -/
def cntN (X : Nat → Bool) : Nat → Nat
  | 0 => 0
  | n + 1 => cntN X n + (if X n = true then 1 else 0)
theorem cntN_le (X : Nat → Bool) : ∀ n, cntN X n ≤ n
  | 0 => Nat.le_refl _
  | n + 1 => by
    have := cntN_le X n
    unfold cntN
    split <;> omega
theorem cntN_mono {X Y : Nat → Bool} : ∀ n, (∀ t, t < n → X t = true → Y t = true) → cntN X n ≤ cntN Y n
  | 0, _ => Nat.le_refl _
  | n + 1, h => by
    have := cntN_mono (X := X) (Y := Y) n (fun t ht => h t (by omega))
    unfold cntN
    by_cases c : X n = true
    · rw [if_pos c, if_pos (h n (by omega) c)]; omega
    · rw [if_neg c]; split <;> omega
theorem cntN_lt {X Y : Nat → Bool} : ∀ n, (∀ t, t < n → X t = true → Y t = true) → (∃ t, t < n ∧ X t = false ∧ Y t = true) → cntN X n < cntN Y n
  | 0, _, ⟨t, h, _⟩ => absurd h (by omega)
  | n + 1, h, ⟨t, h1, h2, h3⟩ => by
    have hm := cntN_mono (X := X) (Y := Y) n (fun t ht => h t (by omega))
    unfold cntN
    by_cases c : t = n
    · subst c
      rw [h2, h3]
      simp
      omega
    · have := cntN_lt (X := X) (Y := Y) n (fun t ht => h t (by omega)) ⟨t, by omega, h2, h3⟩
      by_cases c2 : X n = true
      · rw [if_pos c2, if_pos (h n (by omega) c2)]; omega
      · rw [if_neg c2]; split <;> omega
theorem cntN_full {X : Nat → Bool} : ∀ n, cntN X n = n → ∀ t, t < n → X t = true
  | 0, _, t, h => absurd h (by omega)
  | n + 1, h, t, ht => by
    unfold cntN at h
    have hl := cntN_le X n
    have hn : X n = true := by
      by_cases c : X n = true
      · exact c
      · rw [if_neg c] at h; omega
    rw [if_pos hn] at h
    by_cases c : t = n
    · subst c; exact hn
    · exact cntN_full n (by omega) t (by omega)
/-- eight rounds, each of which adds something as long as something is wanting -/
theorem chain8 {X : Nat → Nat → Bool} {T : Nat → Prop} (hm : ∀ j t, t < 8 → X j t = true → X (j + 1) t = true) (hg : ∀ j, (∀ t, t < 8 → T t → X j t = true) ∨ ∃ t, t < 8 ∧ X j t = false ∧ X (j + 1) t = true) : ∀ t, t < 8 → T t → X 8 t = true := by
  have hm2 : ∀ j i t, t < 8 → X j t = true → X (j + i) t = true := by
    intro j i
    induction i with
    | zero => intro t _ h; exact h
    | succ i ih => intro t ht h; exact hm _ t ht (ih t ht h)
  have key : ∀ j, j ≤ 8 → (∃ i, i ≤ j ∧ ∀ t, t < 8 → T t → X i t = true) ∨ j ≤ cntN (X j) 8 := by
    intro j
    induction j with
    | zero => intro _; exact Or.inr (Nat.zero_le _)
    | succ j ih =>
      intro hj
      rcases ih (by omega) with ⟨i, h1, h2⟩ | h
      · exact Or.inl ⟨i, by omega, h2⟩
      · rcases hg j with h3 | h3
        · exact Or.inl ⟨j, by omega, h3⟩
        · right
          have := cntN_lt 8 (fun t ht => hm j t ht) h3
          omega
  intro t ht hT
  rcases key 8 (by omega) with ⟨i, h1, h2⟩ | h
  · have := hm2 i (8 - i) t ht (h2 t ht hT)
    rwa [show i + (8 - i) = 8 by omega] at this
  · exact cntN_full 8 (by have := cntN_le (X 8) 8; omega) t ht
/-- the least relation of the first eight that holds E and goes on -/
def trE (E : Nat → Nat → Prop) (s t : Nat) : Prop := ∀ R : Nat → Nat → Prop, (∀ a b, a < 8 → b < 8 → E a b → R a b) → (∀ a b c, a < 8 → b < 8 → c < 8 → R a b → R b c → R a c) → R s t
theorem trE_E {E : Nat → Nat → Prop} {s t : Nat} (hs : s < 8) (ht : t < 8) (h : E s t) : trE E s t := fun R h1 _ => h1 s t hs ht h
theorem trE_tr {E : Nat → Nat → Prop} {s t u : Nat} (hs : s < 8) (ht : t < 8) (hu : u < 8) (h : trE E s t) (g : trE E t u) : trE E s u := fun R h1 h2 => h2 s t u hs ht hu (h R h1 h2) (g R h1 h2)
/-- rounds over one row -/
theorem tr_round {E : Nat → Nat → Prop} {s : Nat} {X : Nat → Nat → Bool} (hs : s < 8) (h0 : ∀ t, t < 8 → E s t → X 0 t = true) (hm : ∀ j t, t < 8 → X j t = true → X (j + 1) t = true) (hr : ∀ j t u, t < 8 → u < 8 → X j t = true → E t u → X (j + 1) u = true) : ∀ t, t < 8 → trE E s t → X 8 t = true := by
  have hm2 : ∀ j t, t < 8 → X 0 t = true → X j t = true := by
    intro j
    induction j with
    | zero => intro t _ h; exact h
    | succ j ih => intro t ht h; exact hm _ t ht (ih t ht h)
  refine chain8 hm (fun j => ?_)
  by_cases c : ∃ t u, t < 8 ∧ u < 8 ∧ X j t = true ∧ E t u ∧ X j u = false
  · obtain ⟨t, u, h1, h2, h3, h4, h5⟩ := c
    exact Or.inr ⟨u, h2, h5, hr j t u h1 h2 h3 h4⟩
  · left
    intro t ht hT
    -- what is reached from s is held
    have := hT (fun a b => a < 8 ∧ b < 8 ∧ trE E a b ∧ (X j a = true → X j b = true) ∧ (a = s → X j b = true)) (fun a b ha hb hE => by
      refine ⟨ha, hb, trE_E ha hb hE, fun hX => ?_, fun e => ?_⟩
      · by_cases d : X j b = true
        · exact d
        · exact absurd ⟨a, b, ha, hb, hX, hE, (Bool.not_eq_true _).mp d⟩ c
      · subst e; exact hm2 j b hb (h0 b hb hE)) (fun a b d ha hb hd h1 h2 => ⟨ha, hd, trE_tr ha hb hd h1.2.2.1 h2.2.2.1, fun hX => h2.2.2.2.1 (h1.2.2.2.1 hX), fun e => h2.2.2.2.1 (h1.2.2.2.2 e)⟩)
    exact this.2.2.2.2 rfl
/-- layers: what is asked of them -/
def lySol (U D : Nat → Nat → Prop) (v : Nat → Nat) : Prop := ∀ s t, s < 8 → t < 8 → (U s t → v t ≤ v s) ∧ (D s t → v t + 1 ≤ v s)
def lySeq (U D : Nat → Nat → Prop) (v : Nat → Nat → Nat) : Prop := (∀ s, s < 8 → v 0 s = 0) ∧ (∀ j s, s < 8 → v j s ≤ v (j + 1) s) ∧ (∀ j y, lySol U D y → ∀ s, s < 8 → v j s ≤ y s) ∧ (∀ j s t, s < 8 → t < 8 → (U s t → v j t ≤ v (j + 1) s) ∧ (D s t → v j t + 1 ≤ v (j + 1) s))
theorem ly_up {U D : Nat → Nat → Prop} {v : Nat → Nat → Nat} (h : lySeq U D v) : ∀ j i s, s < 8 → v j s ≤ v (j + i) s := by
  intro j i
  induction i with
  | zero => intro s _; exact Nat.le_refl _
  | succ i ih => intro s hs; exact Nat.le_trans (ih s hs) (h.2.1 _ s hs)
theorem ly_stop {U D : Nat → Nat → Prop} {v : Nat → Nat → Nat} (h : lySeq U D v) {j : Nat} (e : ∀ s, s < 8 → v (j + 1) s = v j s) : lySol U D (v j) := fun s t hs ht => ⟨fun hU => by rw [← e s hs]; exact (h.2.2.2 j s t hs ht).1 hU, fun hD => by rw [← e s hs]; exact (h.2.2.2 j s t hs ht).2 hD⟩
theorem ly_keep {U D : Nat → Nat → Prop} {v : Nat → Nat → Nat} (h : lySeq U D v) {j : Nat} (e : lySol U D (v j)) (i : Nat) : lySol U D (v (j + i)) ∧ ∀ s, s < 8 → v (j + i) s = v j s := by
  have : ∀ s, s < 8 → v (j + i) s = v j s := fun s hs => Nat.le_antisymm (h.2.2.1 _ _ e s hs) (ly_up h j i s hs)
  refine ⟨fun s t hs ht => ?_, this⟩
  rw [this s hs, this t ht]
  exact e s t hs ht
def sum8 (v : Nat → Nat) : Nat := v 0 + v 1 + v 2 + v 3 + v 4 + v 5 + v 6 + v 7
/-- sixty-four rounds are enough -/
theorem ly_64 {U D : Nat → Nat → Prop} {v : Nat → Nat → Nat} (h : lySeq U D v) {y : Nat → Nat} (hy : lySol U D y) (hb : ∀ s, s < 8 → y s ≤ 7) : lySol U D (v 64) := by
  have key : ∀ j, (∃ i, i ≤ j ∧ lySol U D (v i)) ∨ j ≤ sum8 (v j) := by
    intro j
    induction j with
    | zero => exact Or.inr (Nat.zero_le _)
    | succ j ih =>
      rcases ih with ⟨i, h1, h2⟩ | h3
      · exact Or.inl ⟨i, by omega, h2⟩
      · by_cases c : ∀ s, s < 8 → v (j + 1) s = v j s
        · exact Or.inl ⟨j, by omega, ly_stop h c⟩
        · right
          have a := h.2.1 j
          have a0 := a 0 (by omega); have a1 := a 1 (by omega); have a2 := a 2 (by omega); have a3 := a 3 (by omega)
          have a4 := a 4 (by omega); have a5 := a 5 (by omega); have a6 := a 6 (by omega); have a7 := a 7 (by omega)
          have : ¬ (v (j + 1) 0 = v j 0 ∧ v (j + 1) 1 = v j 1 ∧ v (j + 1) 2 = v j 2 ∧ v (j + 1) 3 = v j 3 ∧ v (j + 1) 4 = v j 4 ∧ v (j + 1) 5 = v j 5 ∧ v (j + 1) 6 = v j 6 ∧ v (j + 1) 7 = v j 7) := by
            rintro ⟨e0, e1, e2, e3, e4, e5, e6, e7⟩
            apply c
            intro s hs
            have : s = 0 ∨ s = 1 ∨ s = 2 ∨ s = 3 ∨ s = 4 ∨ s = 5 ∨ s = 6 ∨ s = 7 := by omega
            rcases this with rfl | rfl | rfl | rfl | rfl | rfl | rfl | rfl <;> assumption
          unfold sum8 at *
          omega
  rcases key 64 with ⟨i, h1, h2⟩ | h3
  · have := (ly_keep h h2 (64 - i)).1
    rwa [show i + (64 - i) = 64 by omega] at this
  · exfalso
    have a := fun s hs => Nat.le_trans (h.2.2.1 64 y hy s hs) (hb s hs)
    have a0 := a 0 (by omega); have a1 := a 1 (by omega); have a2 := a 2 (by omega); have a3 := a 3 (by omega)
    have a4 := a 4 (by omega); have a5 := a 5 (by omega); have a6 := a 6 (by omega); have a7 := a 7 (by omega)
    unfold sum8 at h3
    omega
/-- eight are -/
theorem ly_8 {U D : Nat → Nat → Prop} {v : Nat → Nat → Nat} (h : lySeq U D v) {L : Nat → Nat} (hL : lySol U D L) (hl : ∀ y, lySol U D y → ∀ s, s < 8 → L s ≤ y s) : ∀ s, s < 8 → v 8 s = L s := by
  have := chain8 (X := fun j s => decide (v j s = L s)) (T := fun _ => True) (fun j t ht hX => by
    have e := of_decide_eq_true hX
    refine decide_eq_true (Nat.le_antisymm (h.2.2.1 _ L hL t ht) ?_)
    rw [← e]
    exact h.2.1 j t ht) (fun j => by
    by_cases c : ∃ s, s < 8 ∧ v j s ≠ L s ∧ v (j + 1) s = L s
    · obtain ⟨s, h1, h2, h3⟩ := c
      exact Or.inr ⟨s, h1, decide_eq_false h2, decide_eq_true h3⟩
    · left
      have hlt : ∀ s, s < 8 → v (j + 1) s = L s → v j s = L s := fun s hs e => by
        by_cases d : v j s = L s
        · exact d
        · exact absurd ⟨s, hs, d, e⟩ c
      have hy : lySol U D (fun s => if v j s = L s then L s else L s - 1) := by
        intro s t hs ht
        have hle : ∀ t, (if v j t = L t then L t else L t - 1) ≤ L t := fun t => by split <;> omega
        have key : ∀ m : Nat, v j t + m ≤ v (j + 1) s → L t + m ≤ L s → (if v j t = L t then L t else L t - 1) + m ≤ (if v j s = L s then L s else L s - 1) := by
          intro m g1 g2
          have g3 := h.2.2.1 (j + 1) L hL s hs
          by_cases d : v j s = L s
          · rw [if_pos d]
            have := hle t
            omega
          · rw [if_neg d]
            by_cases e : v j t = L t
            · rw [if_pos e]
              have : v (j + 1) s ≠ L s := fun z => d (hlt s hs z)
              omega
            · rw [if_neg e]
              have := h.2.2.1 j L hL t ht
              omega
        refine ⟨fun hU => ?_, fun hD => ?_⟩
        · exact key 0 ((h.2.2.2 j s t hs ht).1 hU) ((hL s t hs ht).1 hU)
        · exact key 1 ((h.2.2.2 j s t hs ht).2 hD) ((hL s t hs ht).2 hD)
      intro s hs _
      have := hl _ hy s hs
      have g := h.2.2.1 j L hL s hs
      refine decide_eq_true ?_
      by_cases d : v j s = L s
      · exact d
      · rw [if_neg d] at this
        omega)
  intro s hs
  exact of_decide_eq_true (this s hs trivial)
/-- a solution, if none that is dropped is needed by what drops it -/
theorem ly_sol {U D : Nat → Nat → Prop} {N : Nat → Nat → Bool} (hU : ∀ s t, s < 8 → t < 8 → U s t → N s t = true) (hD : ∀ s t, s < 8 → t < 8 → D s t → N s t = true ∧ N t s = false) (hN : ∀ s t u, s < 8 → t < 8 → u < 8 → N s t = true → N t u = true → N s u = true) : lySol U D (fun s => cntN (fun t => N s t && !N t s) 8) ∧ ∀ s, s < 8 → cntN (fun t => N s t && !N t s) 8 ≤ 7 := by
  have sub : ∀ s t, s < 8 → t < 8 → N s t = true → ∀ u, u < 8 → (N t u && !N u t) = true → (N s u && !N u s) = true := by
    intro s t hs ht h u hu hX
    rw [Bool.and_eq_true, Bool.not_eq_true'] at hX ⊢
    refine ⟨hN s t u hs ht hu h hX.1, ?_⟩
    by_cases c : N u s = true
    · have := hN u s t hu hs ht c h
      rw [hX.2] at this
      cases this
    · exact (Bool.not_eq_true _).mp c
  refine ⟨fun s t hs ht => ⟨fun h => cntN_mono 8 (fun u hu => sub s t hs ht (hU s t hs ht h) u hu), fun h => ?_⟩, fun s hs => ?_⟩
  · obtain ⟨h1, h2⟩ := hD s t hs ht h
    refine cntN_lt 8 (fun u hu => sub s t hs ht h1 u hu) ⟨t, ht, ?_, ?_⟩
    · cases N t t <;> rfl
    · rw [h1, h2]; rfl
  · have h1 := cntN_le (fun t => N s t && !N t s) 8
    by_cases c : cntN (fun t => N s t && !N t s) 8 = 8
    · have := cntN_full 8 c s hs
      cases h9 : N s s <;> rw [h9] at this <;> cases this
    · omega
