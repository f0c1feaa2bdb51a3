/-! Heights that are right are there; bodies of quotes; levels -/
theorem ex_min {D : Nat → Prop} : ∀ n, D n → ∃ h, D h ∧ ∀ h', h' < h → ¬ D h' := by
  intro n
  induction n using Nat.strongRecOn with
  | ind n ih =>
    intro hn
    by_cases c : ∃ m, m < n ∧ D m
    · obtain ⟨m, h1, h2⟩ := c
      exact ih m h1 h2
    · exact ⟨n, hn, fun h' h1 h2 => c ⟨h', h1, h2⟩⟩
/-- the least number of a set, 0 of none -/
noncomputable def lst (D : Nat → Prop) : Nat := @dite _ (∃ h, D h ∧ ∀ h', h' < h → ¬ D h') (Classical.propDecidable _) (fun z => Classical.choose z) (fun _ => 0)
theorem lst_iff {D : Nat → Prop} (h0 : ¬ D 0) (hm : ∀ h, D h → D (h + 1)) (k : Nat) : (0 < lst D ∧ lst D ≤ k) ↔ D k := by
  have up : ∀ a i, D a → D (a + i) := by
    intro a i
    induction i with
    | zero => intro h; exact h
    | succ i ih => intro h; exact hm _ (ih h)
  unfold lst
  by_cases c : ∃ h, D h ∧ ∀ h', h' < h → ¬ D h'
  · rw [dif_pos c]
    obtain ⟨a1, a2⟩ := Classical.choose_spec c
    generalize Classical.choose c = x at *
    constructor
    · rintro ⟨b1, b2⟩
      have := up x (k - x) a1
      rwa [show x + (k - x) = k by omega] at this
    · intro hk
      refine ⟨Nat.pos_of_ne_zero (fun e => h0 (by rw [← e]; exact a1)), ?_⟩
      by_cases d : x ≤ k
      · exact d
      · exact absurd hk (a2 k (by omega))
  · rw [dif_neg c]
    constructor
    · rintro ⟨b1, b2⟩; omega
    · intro hk; exact absurd (ex_min k hk) c
section EXS
variable (w : Nat → Int32) (T : TX) (Q : Nat → Nat → Nat → Prop)
/-- pieces of one layer, of at most a height, those of layers below being known -/
def exD (L : Nat) (G : Nat → Nat → Nat → Nat) : Nat → Nat → Nat → Nat → Prop
  | 0, _, _, _ => False
  | h + 1, s, i, j => (i ≤ j ∧ j ≤ T.1) ∧ may w T G s i j ∧ stp w T Q (fun t b e => (lyW w 64 t < L ∧ lo G h t b e) ∨ (lyW w 64 t = L ∧ exD L G h t b e)) s i j
noncomputable def exH : Nat → Nat → Nat → Nat → Nat
  | 0, _, _, _ => 0
  | L + 1, s, i, j => if lyW w 64 s = L then lst (fun h => exD w T Q L (exH L) h s i j) else exH L s i j
noncomputable def solH : Nat → Nat → Nat → Nat := exH w T Q 9
end EXS
section EXT
variable {w : Nat → Int32} {T : TX} {Q : Nat → Nat → Nat → Prop}
theorem exD_mono (hG : WG w) {L : Nat} {G : Nat → Nat → Nat → Nat} : ∀ h s i j, exD w T Q L G h s i j → exD w T Q L G (h + 1) s i j
  | 0, _, _, _, g => absurd g (by simp [exD])
  | h + 1, s, i, j, ⟨g0, g1, g2⟩ => by
    refine ⟨g0, g1, stp_tr hG txQ.rfl' (Nat.zero_le _) (by omega) (fun q _ z => z) (fun t ht hu b e c1 c2 c3 z => ?_) g2⟩
    rcases z with ⟨z1, z2⟩ | ⟨z1, z2⟩
    · exact Or.inl ⟨z1, by unfold lo at *; omega⟩
    · exact Or.inr ⟨z1, exD_mono hG h t b e z2⟩
theorem exH_st {L : Nat} : ∀ i s a b, lyW w 64 s < L → exH w T Q (L + i) s a b = exH w T Q L s a b
  | 0, s, a, b, _ => rfl
  | i + 1, s, a, b, h => by
    show (if lyW w 64 s = L + i then _ else exH w T Q (L + i) s a b) = _
    rw [if_neg (by omega)]
    exact exH_st i s a b h
theorem solH_sol (hG : WG w) (hs : sndW w) : Sol w T Q 0 (solH w T Q) ∧ ∀ s i j, s < 8 → ¬ (i ≤ j ∧ j ≤ T.1) → solH w T Q s i j = 0 := by
  obtain ⟨ly1, -, ly3⟩ := lyW_least hG hs
  have eD : ∀ s, s < 8 → ∀ h i j, lo (solH w T Q) h s i j ↔ exD w T Q (lyW w 64 s) (exH w T Q (lyW w 64 s)) h s i j := by
    intro s h8 h i j
    have e : solH w T Q s i j = lst (fun h => exD w T Q (lyW w 64 s) (exH w T Q (lyW w 64 s)) h s i j) := by
      have l7 := ly3 s h8
      unfold solH
      have := exH_st (w := w) (T := T) (Q := Q) (L := lyW w 64 s + 1) (8 - lyW w 64 s) s i j (by omega)
      rw [show lyW w 64 s + 1 + (8 - lyW w 64 s) = 9 by omega] at this
      rw [this]
      show (if lyW w 64 s = lyW w 64 s then _ else _) = _
      rw [if_pos rfl]
    unfold lo
    rw [e]
    exact lst_iff (D := fun h => exD w T Q (lyW w 64 s) (exH w T Q (lyW w 64 s)) h s i j) (by simp [exD]) (fun h => exD_mono hG h s i j) h
  have eB : ∀ t L i j, t < 8 → lyW w 64 t < L → L ≤ 8 → exH w T Q L t i j = solH w T Q t i j := by
    intro t L i j _ h1 h2
    have := exH_st (w := w) (T := T) (Q := Q) (L := L) (9 - L) t i j h1
    rw [show L + (9 - L) = 9 by omega] at this
    exact this.symm
  refine ⟨fun s i j h8 _ b2 b3 h => ?_, fun s i j h8 hn => ?_⟩
  · rw [eD s h8 (h + 1) i j]
    have l7 := ly3 s h8
    have em : nDrp w (exH w T Q (lyW w 64 s)) s i j ↔ nDrp w (solH w T Q) s i j := by
      constructor <;> intro z t ht
      · have l2 := drp_lt hG ht
        have := (ly1 s t h8 l2.2).2 ht
        rw [← eB t (lyW w 64 s) i j l2.2 (by omega) (by omega)]; exact z t ht
      · have l2 := drp_lt hG ht
        have := (ly1 s t h8 l2.2).2 ht
        rw [eB t (lyW w 64 s) i j l2.2 (by omega) (by omega)]; exact z t ht
    have eS : ∀ t, t < 8 → useW w s t = true → ∀ b e, (((lyW w 64 t < lyW w 64 s ∧ lo (exH w T Q (lyW w 64 s)) h t b e) ∨ (lyW w 64 t = lyW w 64 s ∧ exD w T Q (lyW w 64 s) (exH w T Q (lyW w 64 s)) h t b e)) ↔ lo (solH w T Q) h t b e) := by
      intro t ht hu b e
      have := (ly1 s t h8 ht).1 hu
      by_cases c : lyW w 64 t = lyW w 64 s
      · rw [eD t ht h b e, c]
        exact ⟨fun z => z.elim (fun y => absurd y.1 (by omega)) (fun y => y.2), fun z => Or.inr ⟨rfl, z⟩⟩
      · unfold lo
        rw [eB t (lyW w 64 s) b e ht (by omega) (by omega)]
        exact ⟨fun z => z.elim (fun y => y.2) (fun y => absurd y.1 c), fun z => Or.inl ⟨by omega, z⟩⟩
    show (_ ∧ _ ∧ _) ↔ _
    unfold may
    rw [em]
    constructor
    · rintro ⟨-, z1, z2⟩
      exact ⟨z1, stp_tr hG txQ.rfl' (Nat.zero_le _) (by omega) (fun q _ z => z) (fun t ht hu b e _ _ _ => (eS t ht hu b e).mp) z2⟩
    · rintro ⟨z1, z2⟩
      exact ⟨⟨b2, b3⟩, z1, stp_tr hG txQ.rfl' (Nat.zero_le _) (by omega) (fun q _ z => z) (fun t ht hu b e _ _ _ => (eS t ht hu b e).mpr) z2⟩
  · by_cases c : solH w T Q s i j = 0
    · exact c
    · exfalso
      have := (eD s h8 (solH w T Q s i j) i j).mp ⟨by omega, Nat.le_refl _⟩
      cases hx : solH w T Q s i j with
      | zero => exact c hx
      | succ y =>
        rw [hx] at this
        exact hn this.1
end EXT
/-- the body of a quote: its text, where the quote ends -/
def unqF (c x : Int32) (T : TX) : Nat → Nat → Nat → (Nat → Int32) → Option (TX × Nat)
  | 0, _, _, _ => none
  | f + 1, a, m, g => if a < T.1 then (if T.2 a = c then some ((m, g), a + 1) else if T.2 a = x then (if a + 1 < T.1 then unqF c x T f (a + 2) (m + 1) (fu g m (T.2 (a + 1))) else none) else unqF c x T f (a + 1) (m + 1) (fu g m (T.2 a))) else none
def unq (w : Nat → Int32) (T : TX) (q i : Nat) : Option (TX × Nat) := if i < T.1 ∧ T.2 i = w (972 + 5 * q + 2) then unqF (w (972 + 5 * q + 3)) (w (972 + 5 * q + 4)) T T.1 (i + 1) 0 (fun _ => 0) else none
/-- how high pieces are (0: not of the sort), in a text that may hold so many more within each other -/
noncomputable def HHx (w : Nat → Int32) : Nat → TX → Nat → Nat → Nat → Nat
  | 0, T => solH w T (fun _ _ _ => False)
  | k + 1, T => solH w T (fun q i e => ∃ B, unq w T q i = some (B, e) ∧ 0 < HHx w k B (wN w (972 + 5 * q + 1)) 0 B.1)
/-- quotes that are good -/
def QQx (w : Nat → Int32) (k : Nat) (T : TX) (q i e : Nat) : Prop := match k with
  | 0 => False
  | k + 1 => ∃ B, unq w T q i = some (B, e) ∧ 0 < HHx w k B (wN w (972 + 5 * q + 1)) 0 B.1
theorem HHx_eq (w : Nat → Int32) (k : Nat) (T : TX) : HHx w k T = solH w T (QQx w k T) := by
  cases k <;> rfl
/-- a text's signs are signs -/
def txOK (T : TX) : Prop := T.1 ≤ 24 ∧ ∀ i, i < T.1 → isSg (T.2 i) = true
theorem unqF_ok {c x : Int32} {T : TX} (hT : txOK T) : ∀ (f a m : Nat) (g : Nat → Int32) (B : TX) (e : Nat), (∀ i, i < m → isSg (g i) = true) → m < a → unqF c x T f a m g = some (B, e) → txOK B ∧ a < e ∧ e ≤ T.1 ∧ m ≤ B.1 ∧ B.1 < e
  | 0, _, _, _, _, _, _, _, h => by cases h
  | f + 1, a, m, g, B, e, hg, hm, h => by
    have h24 := hT.1
    unfold unqF at h
    split at h
    · rename_i ha
      split at h
      · cases h
        exact ⟨⟨by show m ≤ 24; omega, hg⟩, by omega, by omega, Nat.le_refl _, by show m < a + 1; omega⟩
      · split at h
        · split at h
          · rename_i ha2
            have := unqF_ok hT f (a + 2) (m + 1) _ B e (fun i hi => by
              unfold fu
              split
              · exact hT.2 _ ha2
              · exact hg i (by omega)) (by omega) h
            exact ⟨this.1, by omega, this.2.2.1, by omega, this.2.2.2.2⟩
          · cases h
        · have := unqF_ok hT f (a + 1) (m + 1) _ B e (fun i hi => by
            unfold fu
            split
            · exact hT.2 _ ha
            · exact hg i (by omega)) (by omega) h
          exact ⟨this.1, by omega, this.2.2.1, by omega, this.2.2.2.2⟩
    · cases h
theorem unq_ok {w : Nat → Int32} {T : TX} (hT : txOK T) {q i : Nat} {B : TX} {e : Nat} (h : unq w T q i = some (B, e)) : txOK B ∧ i + 1 < e ∧ e ≤ T.1 ∧ B.1 < e := by
  unfold unq at h
  split at h
  · have := unqF_ok hT _ _ _ _ B e (fun i hi => absurd hi (by omega)) (by omega) h
    exact ⟨this.1, this.2.1, this.2.2.1, this.2.2.2.2⟩
  · cases h
/-- bodies in texts that are alike are alike -/
theorem unqF_tr {w : Nat → Int32} {c x : Int32} {T U : TX} {m0 : Nat} (h : txQ w m0 T U) (hc : ∀ a b, sgQ w a b → (a = c ↔ b = c)) (hx : ∀ a b, sgQ w a b → (a = x ↔ b = x)) : ∀ (f a m : Nat) (g g' : Nat → Int32), m0 ≤ a → (∀ i, i < m → sgQ w (g i) (g' i)) → match unqF c x T f a m g, unqF c x U f a m g' with
    | none, none => True
    | some (B, e), some (B', e') => e = e' ∧ txQ w 0 B B'
    | _, _ => False
  | 0, _, _, _, _, _, _ => trivial
  | f + 1, a, m, g, g', hm, hg => by
    unfold unqF
    rw [← h.1]
    by_cases ha : a < T.1
    · have q := h.2 a hm ha
      rw [if_pos ha, if_pos ha]
      by_cases c1 : T.2 a = c
      · rw [if_pos c1, if_pos ((hc _ _ q).mp c1)]
        exact ⟨rfl, rfl, fun i _ hi => hg i hi⟩
      · rw [if_neg c1, if_neg (fun z => c1 ((hc _ _ q).mpr z))]
        by_cases c2 : T.2 a = x
        · rw [if_pos c2, if_pos ((hx _ _ q).mp c2)]
          by_cases ha2 : a + 1 < T.1
          · rw [if_pos ha2, if_pos ha2]
            refine unqF_tr h hc hx f (a + 2) (m + 1) _ _ (by omega) (fun i hi => ?_)
            unfold fu
            by_cases e : i = m
            · rw [if_pos e, if_pos e]; exact h.2 _ (by omega) ha2
            · rw [if_neg e, if_neg e]; exact hg i (by omega)
          · rw [if_neg ha2, if_neg ha2]; exact trivial
        · rw [if_neg c2, if_neg (fun z => c2 ((hx _ _ q).mpr z))]
          refine unqF_tr h hc hx f (a + 1) (m + 1) _ _ (by omega) (fun i hi => ?_)
          unfold fu
          by_cases e : i = m
          · rw [if_pos e, if_pos e]; exact q
          · rw [if_neg e, if_neg e]; exact hg i (by omega)
    · rw [if_neg ha, if_neg ha]; exact trivial
theorem unq_tr {w : Nat → Int32} {T U : TX} {m q i : Nat} (h : txQ w m T U) (hq : q < wN w 2) (hi : m ≤ i) : match unq w T q i, unq w U q i with
    | none, none => True
    | some (B, e), some (B', e') => e = e' ∧ txQ w 0 B B'
    | _, _ => False := by
  have k2 : ∀ a b, sgQ w a b → (a = w (972 + 5 * q + 2) ↔ b = w (972 + 5 * q + 2)) := fun a b z => z.nm (nm_quo (i := 0) hq (by omega))
  have k3 : ∀ a b, sgQ w a b → (a = w (972 + 5 * q + 3) ↔ b = w (972 + 5 * q + 3)) := fun a b z => z.nm (nm_quo (i := 1) hq (by omega))
  have k4 : ∀ a b, sgQ w a b → (a = w (972 + 5 * q + 4) ↔ b = w (972 + 5 * q + 4)) := fun a b z => z.nm (nm_quo (i := 2) hq (by omega))
  unfold unq
  by_cases c : i < T.1 ∧ T.2 i = w (972 + 5 * q + 2)
  · rw [if_pos c, if_pos ⟨by rw [← h.1]; exact c.1, (k2 _ _ (h.2 i hi c.1)).mp c.2⟩, ← h.1]
    exact unqF_tr h k3 k4 _ _ _ _ _ (by omega) (fun j hj => absurd hj (by omega))
  · rw [if_neg c, if_neg (fun z => c ⟨by rw [h.1]; exact z.1, (k2 _ _ (h.2 i hi (by rw [h.1]; exact z.1))).mpr z.2⟩)]
    exact trivial
/-- heights in texts that are alike from a place on -/
theorem HHx_tr {w : Nat → Int32} (hG : WG w) (hs : sndW w) : ∀ (k m : Nat) (T U : TX), txQ w m T U → (∀ s i j, s < 8 → m ≤ i → i ≤ j → j ≤ T.1 → HHx w k T s i j = HHx w k U s i j) ∧ ∀ q i e, q < wN w 2 → m ≤ i → (QQx w k T q i e ↔ QQx w k U q i e) := by
  intro k
  induction k with
  | zero =>
    intro m T U h
    have hq : ∀ q i e, q < wN w 2 → m ≤ i → (QQx w 0 T q i e ↔ QQx w 0 U q i e) := fun q i e _ _ => Iff.rfl
    refine ⟨?_, hq⟩
    rw [HHx_eq, HHx_eq]
    exact sol_uq hG hs h (fun q i j h1 h2 _ _ => hq q i j h1 h2) (fun s i j h8 _ => (solH_sol hG hs).1 s i j h8 (Nat.zero_le _)) (fun s i j h8 _ => (solH_sol hG hs).1 s i j h8 (Nat.zero_le _))
  | succ k ih =>
    intro m T U h
    have hq : ∀ q i e, q < wN w 2 → m ≤ i → (QQx w (k + 1) T q i e ↔ QQx w (k + 1) U q i e) := by
      intro q i e hq hi
      have h8 := (hG.qu hq).2.2.1
      have := unq_tr h hq hi
      unfold QQx
      cases e1 : unq w T q i with
      | none =>
        cases e2 : unq w U q i with
        | none => exact ⟨fun ⟨B, z, _⟩ => absurd z (by simp), fun ⟨B, z, _⟩ => absurd z (by simp)⟩
        | some y => rw [e1, e2] at this; exact this.elim
      | some x =>
        cases e2 : unq w U q i with
        | none => rw [e1, e2] at this; exact this.elim
        | some y =>
          obtain ⟨B, e3⟩ := x
          obtain ⟨B', e4⟩ := y
          rw [e1, e2] at this
          obtain ⟨z1, z2⟩ : e3 = e4 ∧ txQ w 0 B B' := this
          subst z1
          have := (ih 0 B B' z2).1 (wN w (972 + 5 * q + 1)) 0 B.1 h8 (Nat.zero_le _) (Nat.zero_le _) (Nat.le_refl _)
          constructor
          · rintro ⟨B2, y1, y2⟩
            cases y1
            exact ⟨B', rfl, by rw [← z2.1, ← this]; exact y2⟩
          · rintro ⟨B2, y1, y2⟩
            cases y1
            exact ⟨B, rfl, by rw [this, z2.1]; exact y2⟩
    refine ⟨?_, hq⟩
    rw [HHx_eq, HHx_eq]
    exact sol_uq hG hs h (fun q i j h1 h2 _ _ => hq q i j h1 h2) (fun s i j h8 _ => (solH_sol hG hs).1 s i j h8 (Nat.zero_le _)) (fun s i j h8 _ => (solH_sol hG hs).1 s i j h8 (Nat.zero_le _))
