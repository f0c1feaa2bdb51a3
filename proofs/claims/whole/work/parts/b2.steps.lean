/-! WORK: steps in a tree, what they do -/
abbrev SE := Nat × Nat × Nat × List Int32
/-- a step, within which agains lie so many deep at most -/
def ST : Nat → Type
  | 0 => SE
  | d + 1 => SE ⊕ (Nat × List (ST d))
def sI : (d : Nat) → SE → ST d
  | 0, e => e
  | _ + 1, e => Sum.inl e
def sA (d t : Nat) (L : List (ST d)) : ST (d + 1) := Sum.inr (t, L)
theorem ST_cs {d : Nat} (s : ST (d + 1)) : (∃ e, s = sI (d + 1) e) ∨ ∃ t L, s = sA d t L := by
  cases s with
  | inl e => exact Or.inl ⟨e, rfl⟩
  | inr z => exact Or.inr ⟨z.1, z.2, rfl⟩
/-- texts, steps begun, done, refused -/
abbrev WX := TX × Nat × Nat × Nat
def one1 (e : SE) (T : TX) : Bool × TX :=
  if e.1 = 1 then (if e.2.1 ≤ T.1 ∧ T.1 + e.2.2.1 ≤ 24 then (true, txIns T e.2.1 e.2.2.1 (fun i => e.2.2.2.getD i 0)) else (false, T))
  else if e.1 = 2 then (if 1 ≤ e.2.2.1 ∧ e.2.1 + e.2.2.1 ≤ T.1 then (true, txCut T e.2.1 e.2.2.1) else (false, T))
  else (if e.2.1 < T.1 ∧ e.2.2.1 < T.1 ∧ T.2 e.2.1 ≠ T.2 e.2.2.1 then (true, txSwp T e.2.1 e.2.2.1) else (false, T))
def exO (e : SE) (x : WX) : WX := if x.2.1 = 200 then x else ((one1 e x.1).2, x.2.1 + 1, x.2.2.1 + (if (one1 e x.1).1 = true then 1 else 0), x.2.2.2 + (if (one1 e x.1).1 = true then 0 else 1))
def exL {X : Type} (f : X → WX → WX) : List X → WX → WX
  | [], x => x
  | s :: L, x => exL f L (f s x)
def itr (f : WX → WX) : Nat → WX → WX
  | 0, x => x
  | n + 1, x => itr f n (f x)
def exS : (d : Nat) → ST d → WX → WX
  | 0, e, x => exO e x
  | d + 1, s, x => match s with
    | Sum.inl e => exO e x
    | Sum.inr (t, L) => if x.2.1 = 200 then x else itr (exL (exS d) L) t (x.1, x.2.1 + 1, x.2.2)
theorem exS_I {d : Nat} {e : SE} {x : WX} : exS d (sI d e) x = exO e x := by cases d <;> rfl
theorem exS_A {d t : Nat} {L : List (ST d)} {x : WX} : exS (d + 1) (sA d t L) x = if x.2.1 = 200 then x else itr (exL (exS d) L) t (x.1, x.2.1 + 1, x.2.2) := rfl
/-- a step that can be told -/
def seOK (e : SE) : Prop := (1 ≤ e.1 ∧ e.1 ≤ 3) ∧ e.2.1 ≤ 24 ∧ e.2.2.1 ≤ 24 ∧ (e.1 = 1 → 1 ≤ e.2.2.1 ∧ e.2.2.1 ≤ 8 ∧ e.2.2.2.length = e.2.2.1 ∧ ∀ i, i < e.2.2.1 → isSg (e.2.2.2.getD i 0) = true)
def stOK : (d : Nat) → ST d → Prop
  | 0, e => seOK e
  | d + 1, s => match s with
    | Sum.inl e => seOK e
    | Sum.inr (t, L) => t ≤ 40 ∧ ∀ y, y ∈ L → stOK d y
theorem stOK_I {d : Nat} {e : SE} : stOK d (sI d e) ↔ seOK e := by cases d <;> exact Iff.rfl
theorem stOK_A {d t : Nat} {L : List (ST d)} : stOK (d + 1) (sA d t L) ↔ (t ≤ 40 ∧ ∀ y, y ∈ L → stOK d y) := Iff.rfl
/-- entries of the class, rows of the reference -/
def szL {X : Type} (f : X → Nat) : List X → Nat
  | [] => 0
  | s :: L => f s + szL f L
def csz : (d : Nat) → ST d → Nat
  | 0, _ => 1
  | d + 1, s => match s with
    | Sum.inl _ => 1
    | Sum.inr (_, L) => szL (csz d) L + 2
def rsz : (d : Nat) → ST d → Nat
  | 0, _ => 1
  | d + 1, s => match s with
    | Sum.inl _ => 1
    | Sum.inr (_, L) => szL (rsz d) L + 1
theorem csz_I {d : Nat} {e : SE} : csz d (sI d e) = 1 := by cases d <;> rfl
theorem csz_A {d t : Nat} {L : List (ST d)} : csz (d + 1) (sA d t L) = szL (csz d) L + 2 := rfl
theorem rsz_I {d : Nat} {e : SE} : rsz d (sI d e) = 1 := by cases d <;> rfl
theorem rsz_A {d t : Nat} {L : List (ST d)} : rsz (d + 1) (sA d t L) = szL (rsz d) L + 1 := rfl
theorem csz_pos : ∀ (d : Nat) (s : ST d), 1 ≤ csz d s
  | 0, _ => Nat.le_refl _
  | d + 1, s => by
    rcases ST_cs s with ⟨e, rfl⟩ | ⟨t, L, rfl⟩
    · rw [csz_I]
      exact Nat.le_refl _
    · rw [csz_A]; omega
theorem szL_le {X : Type} {f g : X → Nat} : ∀ (L : List X), (∀ y, y ∈ L → f y ≤ g y) → szL f L ≤ szL g L
  | [], _ => Nat.le_refl _
  | s :: L, h => Nat.add_le_add (h s (List.mem_cons_self ..)) (szL_le L (fun y hy => h y (List.mem_cons_of_mem _ hy)))
theorem rsz_le : ∀ (d : Nat) (s : ST d), 1 ≤ rsz d s ∧ rsz d s ≤ csz d s
  | 0, _ => ⟨Nat.le_refl _, Nat.le_refl _⟩
  | d + 1, s => by
    rcases ST_cs s with ⟨e, rfl⟩ | ⟨t, L, rfl⟩
    · rw [csz_I, rsz_I]
      exact ⟨Nat.le_refl _, Nat.le_refl _⟩
    · rw [csz_A, rsz_A]
      have := szL_le (f := rsz d) (g := csz d) L (fun y _ => (rsz_le d y).2)
      omega
/-- how the class lays steps down, from an entry on: kinds, firsts, seconds, words -/
def layL {X : Type} (f : Nat → X → Prop) (g : X → Nat) : Nat → List X → Prop
  | _, [] => True
  | p, s :: L => f p s ∧ layL f g (p + g s) L
def cLa (K A B W : Nat → Int32) : (d : Nat) → Nat → ST d → Prop
  | 0, p, e => K p = ni e.1 ∧ A p = ni e.2.1 ∧ B p = ni e.2.2.1 ∧ (e.1 = 1 → ∀ i, i < e.2.2.1 → W (8 * p + i) = e.2.2.2.getD i 0)
  | d + 1, p, s => match s with
    | Sum.inl e => K p = ni e.1 ∧ A p = ni e.2.1 ∧ B p = ni e.2.2.1 ∧ (e.1 = 1 → ∀ i, i < e.2.2.1 → W (8 * p + i) = e.2.2.2.getD i 0)
    | Sum.inr (t, L) => K p = 4 ∧ A p = ni t ∧ B p = ni (p + 1 + szL (csz d) L) ∧ layL (cLa K A B W d) (csz d) (p + 1) L ∧ K (p + 1 + szL (csz d) L) = 5 ∧ B (p + 1 + szL (csz d) L) = ni p
theorem cLa_I {K A B W : Nat → Int32} {d p : Nat} {e : SE} : cLa K A B W d p (sI d e) ↔ (K p = ni e.1 ∧ A p = ni e.2.1 ∧ B p = ni e.2.2.1 ∧ (e.1 = 1 → ∀ i, i < e.2.2.1 → W (8 * p + i) = e.2.2.2.getD i 0)) := by cases d <;> exact Iff.rfl
theorem cLa_A {K A B W : Nat → Int32} {d p t : Nat} {L : List (ST d)} : cLa K A B W (d + 1) p (sA d t L) ↔ (K p = 4 ∧ A p = ni t ∧ B p = ni (p + 1 + szL (csz d) L) ∧ layL (cLa K A B W d) (csz d) (p + 1) L ∧ K (p + 1 + szL (csz d) L) = 5 ∧ B (p + 1 + szL (csz d) L) = ni p) := Iff.rfl
/-- how the reference lays steps down, from a row on -/
def rLa (R : Nat → Int32) : (d : Nat) → Nat → ST d → Prop
  | 0, u, e => R (12 * u) = ni (e.1 - 1) ∧ R (12 * u + 1) = ni e.2.1 ∧ (e.1 ≠ 1 → R (12 * u + 2) = ni e.2.2.1) ∧ (e.1 = 1 → R (12 * u + 3) = ni e.2.2.1 ∧ ∀ i, i < e.2.2.1 → R (12 * u + 4 + i) = e.2.2.2.getD i 0)
  | d + 1, u, s => match s with
    | Sum.inl e => R (12 * u) = ni (e.1 - 1) ∧ R (12 * u + 1) = ni e.2.1 ∧ (e.1 ≠ 1 → R (12 * u + 2) = ni e.2.2.1) ∧ (e.1 = 1 → R (12 * u + 3) = ni e.2.2.1 ∧ ∀ i, i < e.2.2.1 → R (12 * u + 4 + i) = e.2.2.2.getD i 0)
    | Sum.inr (t, L) => R (12 * u) = 3 ∧ R (12 * u + 1) = ni t ∧ R (12 * u + 2) = ni (12 * (u + 1 + szL (rsz d) L)) ∧ layL (rLa R d) (rsz d) (u + 1) L
theorem rLa_I {R : Nat → Int32} {d u : Nat} {e : SE} : rLa R d u (sI d e) ↔ (R (12 * u) = ni (e.1 - 1) ∧ R (12 * u + 1) = ni e.2.1 ∧ (e.1 ≠ 1 → R (12 * u + 2) = ni e.2.2.1) ∧ (e.1 = 1 → R (12 * u + 3) = ni e.2.2.1 ∧ ∀ i, i < e.2.2.1 → R (12 * u + 4 + i) = e.2.2.2.getD i 0)) := by cases d <;> exact Iff.rfl
theorem rLa_A {R : Nat → Int32} {d u t : Nat} {L : List (ST d)} : rLa R (d + 1) u (sA d t L) ↔ (R (12 * u) = 3 ∧ R (12 * u + 1) = ni t ∧ R (12 * u + 2) = ni (12 * (u + 1 + szL (rsz d) L)) ∧ layL (rLa R d) (rsz d) (u + 1) L) := Iff.rfl
/-- what running keeps -/
def wxOK (x : WX) : Prop := txOK x.1 ∧ x.2.1 ≤ 200 ∧ x.2.2.1 ≤ x.2.1 ∧ x.2.2.2 ≤ x.2.1
theorem one1_ok {e : SE} (he : seOK e) {T : TX} (hT : txOK T) : txOK (one1 e T).2 := by
  obtain ⟨h1, h2, h3, h4⟩ := he
  unfold one1
  split
  · rename_i c
    obtain ⟨g1, g2, g3, g4⟩ := h4 c
    split
    · rename_i c2; exact hT.ins c2.1 c2.2 g4
    · exact hT
  · split
    · split
      · rename_i c2; exact hT.cut c2.2
      · exact hT
    · split
      · rename_i c2; exact hT.swp c2.1 c2.2.1
      · exact hT
theorem exO_ok {e : SE} (he : seOK e) {x : WX} (h : wxOK x) : wxOK (exO e x) ∧ x.2.1 ≤ (exO e x).2.1 := by
  obtain ⟨h1, h2, h3, h4⟩ := h
  unfold exO
  split
  · exact ⟨⟨h1, h2, h3, h4⟩, Nat.le_refl _⟩
  · refine ⟨⟨one1_ok he h1, ?_, ?_, ?_⟩, ?_⟩
    · show x.2.1 + 1 ≤ 200; omega
    · show x.2.2.1 + _ ≤ x.2.1 + 1
      split <;> omega
    · show x.2.2.2 + _ ≤ x.2.1 + 1
      split <;> omega
    · show x.2.1 ≤ x.2.1 + 1; omega
theorem exL_ok {X : Type} {f : X → WX → WX} : ∀ (L : List X) (x : WX), (∀ y x, y ∈ L → wxOK x → wxOK (f y x) ∧ x.2.1 ≤ (f y x).2.1) → wxOK x → wxOK (exL f L x) ∧ x.2.1 ≤ (exL f L x).2.1
  | [], x, _, h => ⟨h, Nat.le_refl _⟩
  | s :: L, x, hf, h => by
    obtain ⟨h1, h2⟩ := hf s x (List.mem_cons_self ..) h
    obtain ⟨g1, g2⟩ := exL_ok L (f s x) (fun y x hy => hf y x (List.mem_cons_of_mem _ hy)) h1
    exact ⟨g1, Nat.le_trans h2 g2⟩
theorem itr_ok {f : WX → WX} (hf : ∀ x, wxOK x → wxOK (f x) ∧ x.2.1 ≤ (f x).2.1) : ∀ (n : Nat) (x : WX), wxOK x → wxOK (itr f n x) ∧ x.2.1 ≤ (itr f n x).2.1
  | 0, x, h => ⟨h, Nat.le_refl _⟩
  | n + 1, x, h => by
    obtain ⟨h1, h2⟩ := hf x h
    obtain ⟨g1, g2⟩ := itr_ok hf n (f x) h1
    exact ⟨g1, Nat.le_trans h2 g2⟩
theorem exS_ok : ∀ (d : Nat) (s : ST d) (x : WX), stOK d s → wxOK x → wxOK (exS d s x) ∧ x.2.1 ≤ (exS d s x).2.1
  | 0, e, x, hs, h => exO_ok hs h
  | d + 1, s, x, hs, h => by
    rcases ST_cs s with ⟨e, rfl⟩ | ⟨t, L, rfl⟩
    · rw [exS_I]
      exact exO_ok (stOK_I.mp hs) h
    · rw [exS_A]
      split
      · exact ⟨h, Nat.le_refl _⟩
      · obtain ⟨h1, h2, h3, h4⟩ := h
        have h' : wxOK (x.1, x.2.1 + 1, x.2.2) := ⟨h1, by show x.2.1 + 1 ≤ 200; omega, by show x.2.2.1 ≤ x.2.1 + 1; omega, by show x.2.2.2 ≤ x.2.1 + 1; omega⟩
        obtain ⟨g1, g2⟩ := itr_ok (f := exL (exS d) L) (fun x hx => exL_ok L x (fun y x hy hx => exS_ok d y x ((stOK_A.mp hs).2 y hy) hx) hx) t _ h'
        refine ⟨g1, ?_⟩
        have g2' : x.2.1 + 1 ≤ _ := g2
        omega
/-- behind 200 steps nothing changes -/
theorem exO_200 {e : SE} {x : WX} (h : x.2.1 = 200) : exO e x = x := by
  unfold exO
  rw [if_pos h]
theorem exL_200 {X : Type} {f : X → WX → WX} (hf : ∀ y x, x.2.1 = 200 → f y x = x) : ∀ (L : List X) (x : WX), x.2.1 = 200 → exL f L x = x
  | [], _, _ => rfl
  | s :: L, x, h => by
    show exL f L (f s x) = x
    rw [hf s x h]
    exact exL_200 hf L x h
theorem exS_200 : ∀ (d : Nat) (s : ST d) (x : WX), x.2.1 = 200 → exS d s x = x
  | 0, e, x, h => exO_200 h
  | d + 1, s, x, h => by
    rcases ST_cs s with ⟨e, rfl⟩ | ⟨t, L, rfl⟩
    · rw [exS_I]; exact exO_200 h
    · rw [exS_A, if_pos h]
theorem itr_200 {f : WX → WX} (hf : ∀ x, x.2.1 = 200 → f x = x) : ∀ (n : Nat) (x : WX), x.2.1 = 200 → itr f n x = x
  | 0, _, _ => rfl
  | n + 1, x, h => by
    show itr f n (f x) = x
    rw [hf x h]
    exact itr_200 hf n x h
theorem itr_nil {X : Type} {f : X → WX → WX} : ∀ (n : Nat) (x : WX), itr (exL f []) n x = x
  | 0, _ => rfl
  | n + 1, x => itr_nil n x
