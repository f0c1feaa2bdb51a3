/-! Both sides, between two calls -/
def shC (s : Nat) (I : am_I) (p : Nat → TX) (m : Nat) : Prop := I s 2 = ni m ∧ ∀ k, k < m → I (s + 2) k = ni (p k).1 ∧ ∀ i, i < (p k).1 → I (s + 1) (24 * k + i) = (p k).2 i
def rwR (I : am_I) (o B : Nat) (T : TX) : Prop := I o B = ni T.1 ∧ ∀ i, i < T.1 → I o (B + 1 + i) = T.2 i
def shR (I : am_I) (p : Nat → TX) (m : Nat) : Prop := I 163 34 = ni m ∧ ∀ k, k < m → rwR I 182 (25 * k) (p k)
def imR (I : am_I) (B : Nat) (q : Nat → TX) (m : Nat) : Prop := rwR I 201 B (q m) ∧ (∀ k, k < m → rwR I 201 (B + 25 + 25 * k) (q k)) ∧ I 201 (B + 425) = ni m
def lcO (L : LW) : LW := if L.1 = 0 then (1, fun _ => (0, 1)) else L
def INp (Pf : am_R) (r la : Nat) : Prop := am_PF Pf ∧ (r = 16 ∨ r = 55) ∧ Pf 0 2 = some r ∧ Pf 0 3 = some (71 - r) ∧ cFn Pf r ∧ (la = 94 ∨ la = 98) ∧ Pf 0 4 = some la ∧ Pf 0 5 = some (192 - la)
def INc (I : am_I) : Prop := I 0 15 = I 163 10 ∧ I 0 16 = I 163 35 ∧ I 1 6 = I 163 8 ∧ I 0 18 = I 164 0 ∧ I 0 19 = I 164 1 ∧ I 2 = I 165 ∧ (∀ k, I 2 k ≠ -1) ∧ ∃ tp, tp ≤ 600 ∧ I 1 1 = ni tp ∧ I 163 2 = ni tp
def INh (I : am_I) (p : Nat → TX) (m : Nat) (q : Nat → Nat → TX) (c : Nat) (ms : Nat → Nat) : Prop := (m ≤ 16 ∧ (∀ k, k < m → txOK (p k)) ∧ shC 108 I p m ∧ shR I p m) ∧ (c ≤ 3 ∧ (∀ j, j < c → ms j ≤ 16 ∧ ∀ k, k ≤ ms j → txOK (q j k)) ∧ (I 0 9 = ni c ∧ ∀ j, j < c → shC (154 + 3 * j) I (q j) (ms j + 1)) ∧ (I 163 65 = ni c ∧ ∀ j, j < c → imR I (426 * j) (q j) (ms j)))
def INl (I : am_I) (la : Nat) (L : LW) : Prop := cLw la I (lcO L) ∧ rLh I L
def INV (I : am_I) (J : am_J) (Pf : am_R) : Prop := ∃ (r la : Nat) (w : Nat → Int32) (T : TX) (p : Nat → TX) (m : Nat) (q : Nat → Nat → TX) (c : Nat) (ms : Nat → Nat) (L : LW), INp Pf r la ∧ WG w ∧ sndW w ∧ cQ r I J w T ∧ rQ I w T ∧ rSo I w ∧ INc I ∧ INh I p m q c ms ∧ INl I la L
theorem shC.of {s : Nat} {I I' : am_I} {p : Nat → TX} {m : Nat} (h : shC s I p m) (f : ∀ o k, s ≤ o → o ≤ s + 2 → I' o k = I o k) : shC s I' p m := ⟨by rw [f _ _ (by omega) (by omega)]; exact h.1, fun k hk => ⟨by rw [f _ _ (by omega) (by omega)]; exact (h.2 k hk).1, fun i hi => by rw [f _ _ (by omega) (by omega)]; exact (h.2 k hk).2 i hi⟩⟩
theorem rwR.of {I I' : am_I} {o B : Nat} {T : TX} (h : rwR I o B T) (f : ∀ k, I' o k = I o k) : rwR I' o B T := ⟨by rw [f]; exact h.1, fun i hi => by rw [f]; exact h.2 i hi⟩
theorem imR.of {I I' : am_I} {B : Nat} {q : Nat → TX} {m : Nat} (h : imR I B q m) (f : ∀ k, I' 201 k = I 201 k) : imR I' B q m := ⟨h.1.of f, fun k hk => (h.2.1 k hk).of f, by rw [f]; exact h.2.2⟩
theorem shR.of {I I' : am_I} {p : Nat → TX} {m : Nat} (h : shR I p m) (f : I' 163 34 = I 163 34) (g : ∀ k, I' 182 k = I 182 k) : shR I' p m := ⟨f.trans h.1, fun k hk => (h.2 k hk).of g⟩
theorem INh.of {I I' : am_I} {p : Nat → TX} {m : Nat} {q : Nat → Nat → TX} {c : Nat} {ms : Nat → Nat} (h : INh I p m q c ms) (f : ∀ o k, ((108 ≤ o ∧ o ≤ 110) ∨ (154 ≤ o ∧ o ≤ 162) ∨ o = 182 ∨ o = 201 ∨ (o = 163 ∧ (k = 34 ∨ k = 65)) ∨ (o = 0 ∧ k = 9)) → I' o k = I o k) : INh I' p m q c ms := by
  obtain ⟨⟨h1, h2, h3, h4⟩, h5, h6, ⟨h7, h8⟩, h9, h10⟩ := h
  exact ⟨⟨h1, h2, h3.of (fun o k e1 e2 => f o k (by omega)), h4.of (f _ _ (by omega)) (fun k => f _ _ (by omega))⟩, h5, h6, ⟨by rw [f _ _ (by omega)]; exact h7, fun j hj => (h8 j hj).of (fun o k e1 e2 => f o k (by omega))⟩, by rw [f _ _ (by omega)]; exact h9, fun j hj => (h10 j hj).of (fun k => f _ _ (by omega))⟩
theorem INl.of {I I' : am_I} {la : Nat} {L : LW} (hla : la = 94 ∨ la = 98) (h : INl I la L) (f : ∀ o k, ((94 ≤ o ∧ o ≤ 96) ∨ (98 ≤ o ∧ o ≤ 100) ∨ o = 174 ∨ o = 175 ∨ (o = 163 ∧ k = 29)) → I' o k = I o k) : INl I' la L := by
  obtain ⟨⟨a1, a2⟩, b1, b2, b3⟩ := h
  exact ⟨⟨by rw [f _ _ (by omega)]; exact a1, fun i hi => by rw [f _ _ (by omega), f _ _ (by omega)]; exact a2 i hi⟩, b1, by rw [f _ _ (by omega)]; exact b2, fun i hi => by rw [f _ _ (by omega), f _ _ (by omega)]; exact b3 i hi⟩
theorem INc.of {I I' : am_I} (h : INc I) (f : ∀ o k, ((o = 0 ∧ (k = 15 ∨ k = 16 ∨ k = 18 ∨ k = 19)) ∨ (o = 1 ∧ (k = 1 ∨ k = 6)) ∨ o = 2 ∨ (o = 163 ∧ (k = 2 ∨ k = 8 ∨ k = 10 ∨ k = 35)) ∨ o = 164 ∨ o = 165) → I' o k = I o k) : INc I' := by
  obtain ⟨h1, h2, h3, h4, h5, h6, h7, tp, h8, h9, h10⟩ := h
  refine ⟨by rw [f _ _ (by omega), f _ _ (by omega)]; exact h1, by rw [f _ _ (by omega), f _ _ (by omega)]; exact h2, by rw [f _ _ (by omega), f _ _ (by omega)]; exact h3, by rw [f _ _ (by omega), f _ _ (by omega)]; exact h4, by rw [f _ _ (by omega), f _ _ (by omega)]; exact h5, ?_, fun k => by rw [f _ _ (by omega)]; exact h7 k, tp, h8, by rw [f _ _ (by omega)]; exact h9, by rw [f _ _ (by omega)]; exact h10⟩
  funext k
  rw [f _ _ (by omega), f _ _ (by omega), h6]
theorem rSo.of {I I' : am_I} {w : Nat → Int32} (h : rSo I w) (f : ∀ o k, 169 ≤ o → o ≤ 171 → I' o k = I o k) : rSo I' w := by
  obtain ⟨h1, h2, h3⟩ := h
  exact ⟨fun s h8 t ht => by rw [f _ _ (by omega) (by omega)]; exact h1 s h8 t ht, fun s h8 t ht => by rw [f _ _ (by omega) (by omega)]; exact h2 s h8 t ht, fun s h8 => by rw [f _ _ (by omega) (by omega)]; exact h3 s h8⟩
/-- the class's state, where nothing of it has changed -/
theorem cQ.same {r : Nat} (hr : r = 16 ∨ r = 55) {I I' : am_I} {J : am_J} {w : Nat → Int32} {T : TX} (hG : WG w) (h : cQ r I J w T) (f : ∀ o k, o < 154 → ¬ (o = 0 ∧ 13 ≤ k) → o ≠ 1 → I' o k = I o k) : cQ r I' J w T := by
  obtain ⟨h1, h2, h3, h4, h5⟩ := h
  refine ⟨h1.mid hr hG (fun o k a b => f o k (by omega) (by omega) (by omega)) (fun _ _ => rfl), ⟨by rw [f _ _ (by omega) (by omega) (by omega)]; exact h2.1, h2.2.1, fun i hi => by rw [f _ _ (by omega) (by omega) (by omega)]; exact h2.2.2 i hi⟩, h3, h4.of (fun k => f _ _ (by omega) (by omega) (by omega)) rfl, ?_⟩
  rw [f 0 12 (by omega) (by omega) (by omega)]
  rcases h5 with z | ⟨g1, g2, g3⟩
  · exact Or.inl z
  · refine Or.inr ⟨g1.of (fun o y a b => f o y (by omega) (by omega) (by omega)), ?_, g3.of (fun y _ _ => f _ _ (by omega) (by omega) (by omega)) (fun y => f _ _ (by omega) (by omega) (by omega))⟩
    rcases g2 with z | z
    · exact Or.inl (by rw [f _ _ (by omega) (by omega) (by omega)]; exact z)
    · exact Or.inr (z.of (f _ _ (by omega) (by omega) (by omega)) (fun y => f _ _ (by omega) (by omega) (by omega)))
theorem cRs.midJ {r : Nat} (hr : r = 16 ∨ r = 55) {I I' : am_I} {J J' : am_J} {w : Nat → Int32} (hG : WG w) (h : cRs r I J w) (f : ∀ o k, r ≤ o → o < r + 39 → I' o k = I o k) (g : ∀ o, r ≤ o → o < r + 39 → J' o = J o) : cRs r I' J' w := by
  have w0' := hG.1.1.2
  have hO : r + 31 = cO r := (cO_le hr).1
  obtain ⟨h1, ⟨a1, a2, a3⟩, ⟨a4, a5⟩, a6, a7, ⟨a8, a9⟩, a10⟩ := h
  refine ⟨h1.of f (fun c hc => g _ (by omega) (by omega)), ⟨fun s h8 t ht => by rw [f _ _ (by omega) (by omega)]; exact a1 s h8 t ht, fun s h8 t ht => by rw [f _ _ (by omega) (by omega)]; exact a2 s h8 t ht, fun s h8 t ht => by rw [f _ _ (by omega) (by omega)]; exact a3 s h8 t ht⟩, ⟨fun s h8 => by rw [f _ _ (by omega) (by omega)]; exact a4 s h8, by rw [f _ _ (by omega) (by omega)]; exact a5⟩, fun t ht => by rw [f _ _ (by omega) (by omega)]; exact a6 t ht, fun s h8 => ⟨fun k hk => by rw [sgD_o (g _ (by omega) (by omega))]; exact (a7 s h8).1 k hk, sgT_o (g _ (by omega) (by omega)) (a7 s h8).2⟩, ⟨fun k hk => by rw [sgD_o (g _ (by omega) (by omega))]; exact a8 k hk, sgT_o (g _ (by omega) (by omega)) a9⟩, fun c hc t ht => by rw [f _ _ (by omega) (by omega)]; exact a10 c hc t ht⟩
theorem cQ.depJ {r : Nat} (hr : r = 16 ∨ r = 55) {I I' : am_I} {J J' : am_J} {w : Nat → Int32} {T : TX} (hG : WG w) (h : cQ r I J w T) (f : ∀ o k, ((r ≤ o ∧ o < r + 39) ∨ o = 119 ∨ (135 ≤ o ∧ o ≤ 139) ∨ o = 145 ∨ o = 146 ∨ o = 149 ∨ (o = 0 ∧ k = 12)) → I' o k = I o k) (g : ∀ o, r ≤ o → o < r + 39 → J' o = J o) (gJ : J' 118 = J 118) : cQ r I' J' w T := by
  obtain ⟨h1, h2, h3, h4, h5⟩ := h
  refine ⟨h1.midJ hr hG (fun o k a b => f o k (by omega)) g, ⟨by rw [f _ _ (by omega)]; exact h2.1, h2.2.1, fun i hi => by rw [f _ _ (by omega)]; exact h2.2.2 i hi⟩, h3, h4.of (fun k => f _ _ (by omega)) gJ, ?_⟩
  rw [f 0 12 (by omega)]
  rcases h5 with z | ⟨g1, g2, g3⟩
  · exact Or.inl z
  · refine Or.inr ⟨g1.of (fun o y a b => f o y (by omega)), ?_, g3.of (fun y _ _ => f _ _ (by omega)) (fun y => f _ _ (by omega))⟩
    rcases g2 with z | z
    · exact Or.inl (by rw [f _ _ (by omega)]; exact z)
    · exact Or.inr (z.of (f _ _ (by omega)) (fun y => f _ _ (by omega)))
theorem INV.j202 {I : am_I} {J J' : am_J} {Pf : am_R} (hJ : ∀ o, o ≠ 202 → J' o = J o) (h : INV I J Pf) : INV I J' Pf := by
  obtain ⟨r, la, w, T, p, m, q, c, ms, L, h1, h2, h3, h4, h5⟩ := h
  have hr := h1.2.1
  exact ⟨r, la, w, T, p, m, q, c, ms, L, h1, h2, h3, h4.depJ hr h2 (fun _ _ _ => rfl) (fun o a b => hJ o (by omega)) (hJ 118 (by omega)), h5⟩
/-- one call of both: what the class does, then the reference, and the state behind both -/
def oCd (cd : Nat → Int32) (v : Sum Nat Int32) : Int32 := match v with
  | .inl E => cd E
  | .inr _ => 0
def oAn (v : Sum Nat Int32) : Int32 := match v with
  | .inl _ => 0
  | .inr a => a
def oOut (v : Sum Nat Int32) (I : am_I) (J : am_J) (Pf : am_R) : am_O := match v with
  | .inl E => (.inr E, (am_SH, I, J, Pf), 1, 6)
  | .inr a => (.inl (some (.int a)), (am_SH, I, J, Pf), 0, 0)
/-- what a call of the class may throw: 0 no such element, 1 illegal argument -/
def okE (yc E : Nat) : Bool := (E == 0 && [148, 149, 150, 151, 154, 155, 165, 166, 167].contains yc) || (E == 1 && ![140, 144, 145, 146, 150, 154, 155, 165, 171, 172, 173, 174].contains yc)
theorem okE_le {yc E : Nat} (h : okE yc E = true) : E ≤ 1 := by
  match E, h with
  | 0, _ => omega
  | 1, _ => omega
  | n + 2, h => exact absurd h (by show ¬ (((n + 2 == 0) && _) || ((n + 2 == 1) && _)) = true; rw [show (n + 2 == 0) = false from rfl, show (n + 2 == 1) = false from by simp]; simp)
def PAIR (cd : Nat → Int32) (yc yr : Nat) (as : List Value) (I : am_I) (J : am_J) (Pf : am_R) : Prop := ∀ (D : Nat) (P : am_O → Prop), 400 ≤ D → (∀ (v : Sum Nat Int32) (I1 : am_I) (J1 : am_J) (Pf1 : am_R), (∀ E, v = .inl E → okE yc E = true) → (∀ (J2 : am_J), (∀ o, o ≠ 202 → J2 o = J1 o) → ∀ (D2 : Nat) (P2 : am_O → Prop), 400 ≤ D2 → (∀ I2, INV I2 J2 Pf1 → I2 163 0 = oCd cd v → P2 (.inl (some (.int (oAn v))), (am_SH, I2, J2, Pf1), 0, 0)) → am_mth D2 yr (.ref 163 :: as) (am_SH, I1, J2, Pf1) P2) → (∀ k, I1 202 k = I 202 k) → J1 202 = J 202 → P (oOut v I1 J1 Pf1)) → am_mth D yc (.ref 0 :: as) (am_SH, I, J, Pf) P
/-- a question of the text -/
theorem PAIR_q {cd : Nat → Int32} {yc yr : Nat} {as : List Value} {I : am_I} {J : am_J} {Pf : am_R} {r la m c : Nat} {w : Nat → Int32} {T : TX} {p : Nat → TX} {q : Nat → Nat → TX} {ms : Nat → Nat} {L : LW} {v : Sum Nat Int32} (hv : ∀ E, v = .inl E → okE yc E = true) (h1 : INp Pf r la) (h2 : WG w) (h3 : sndW w) (h4 : cQ r I J w T) (h5 : rQ I w T) (h6 : rSo I w) (h7 : INc I) (h8 : INh I p m q c ms) (h9 : INl I la L)
    (hc : ∀ (D : Nat) (P : am_O → Prop), 400 ≤ D → cA P Pf r w T I J v → am_mth D yc (.ref 0 :: as) (am_SH, I, J, Pf) P)
    (hr : ∀ (D : Nat) (P : am_O → Prop) (I1 : am_I) (J1 : am_J), 400 ≤ D → rQ I1 w T → (∀ o k, 163 ≤ o → I1 o k = I o k) → rA P J1 Pf w T I1 cd v → am_mth D yr (.ref 163 :: as) (am_SH, I1, J1, Pf) P) : PAIR cd yc yr as I J Pf := by
  intro D P hD kk
  obtain ⟨hp, hrr, k3, k4, k5, hla, k7, k8⟩ := id h1
  refine hc D P hD ?_
  cases v with
  | inl E =>
    have hE : E ≤ 1 := okE_le (hv E rfl)
    have hf : ∀ o k, ¬ (o = 0 ∧ k = 18 + E) → (am_u I 0 (18 + E) (I 0 (18 + E) + 1)) o k = I o k := fun o k e => am_u_nq e
    have hs : (am_u I 0 (18 + E) (I 0 (18 + E) + 1)) 0 (18 + E) = I 0 (18 + E) + 1 := am_u_same
    show P (.inr E, (am_SH, am_u I 0 (18 + E) (I 0 (18 + E) + 1), J, Pf), 1, 6)
    generalize am_u I 0 (18 + E) (I 0 (18 + E) + 1) = I1 at hf hs ⊢
    have r1 : rQ I1 w T := h5.of (fun o y ho => hf o y (by omega))
    refine kk (.inl E) I1 J Pf hv (fun J2 hJ2 D2 P2 hD2 k2 => hr D2 P2 I1 J2 hD2 r1 (fun o k ho => hf o k (by omega)) ?_) (fun k => hf _ _ (by omega)) rfl
    replace k2 := fun I2 hi => k2 I2 (INV.j202 hJ2 hi)
    show P2 (.inl (some (.int 0)), (am_SH, rTh I1 (cd E) E, J2, Pf), 0, 0)
    have g0 : rTh I1 (cd E) E 163 0 = cd E := by unfold rTh; rw [am_u_nq (by omega)]; exact am_u_same
    have gE : rTh I1 (cd E) E 164 E = I1 164 E + 1 := am_u_same
    have g : ∀ o k, ¬ (o = 163 ∧ k = 0) → ¬ (o = 164 ∧ k = E) → rTh I1 (cd E) E o k = I1 o k := fun o k e1 e2 => by
      unfold rTh
      rw [am_u_nq (by omega), am_u_nq (by omega), am_u_nq (by omega)]
    generalize rTh I1 (cd E) E = I2 at g0 gE g ⊢
    have gg : ∀ o k, ¬ (o = 163 ∧ k = 0) → ¬ (o = 164 ∧ k = E) → ¬ (o = 0 ∧ k = 18 + E) → I2 o k = I o k := fun o k e1 e2 e3 => by rw [g o k e1 e2, hf o k e3]
    refine k2 I2 ⟨r, la, w, T, p, m, q, c, ms, L, h1, h2, h3, h4.same hrr h2 (fun o k e1 e2 e3 => gg o k (by omega) (by omega) (by omega)), h5.of (fun o y ho => gg o y (by omega) (by omega) (by omega)), h6.of (fun o k e1 e2 => gg o k (by omega) (by omega) (by omega)), ?_, h8.of (fun o k e => gg o k (by omega) (by omega) (by omega)), h9.of hla (fun o k e => gg o k (by omega) (by omega) (by omega))⟩ g0
    obtain ⟨c1, c2, c3, c4, c5, c6, c7, tp, c8, c9, c10⟩ := h7
    refine ⟨by rw [gg _ _ (by omega) (by omega) (by omega), gg _ _ (by omega) (by omega) (by omega)]; exact c1, by rw [gg _ _ (by omega) (by omega) (by omega), gg _ _ (by omega) (by omega) (by omega)]; exact c2, by rw [gg _ _ (by omega) (by omega) (by omega), gg _ _ (by omega) (by omega) (by omega)]; exact c3, ?_, ?_, ?_, fun k => by rw [gg _ _ (by omega) (by omega) (by omega)]; exact c7 k, tp, c8, by rw [gg _ _ (by omega) (by omega) (by omega)]; exact c9, by rw [gg _ _ (by omega) (by omega) (by omega)]; exact c10⟩
    · have e : E = 0 ∨ E = 1 := by omega
      rcases e with rfl | rfl
      · rw [g _ _ (by omega) (by omega), hs, gE, hf _ _ (by omega), c4]
      · rw [gg _ _ (by omega) (by omega) (by omega), gg _ _ (by omega) (by omega) (by omega)]; exact c4
    · have e : E = 0 ∨ E = 1 := by omega
      rcases e with rfl | rfl
      · rw [gg _ _ (by omega) (by omega) (by omega), gg _ _ (by omega) (by omega) (by omega)]; exact c5
      · rw [g _ _ (by omega) (by omega), hs, gE, hf _ _ (by omega), c5]
    · funext k
      rw [gg _ _ (by omega) (by omega) (by omega), gg _ _ (by omega) (by omega) (by omega), c6]
  | inr a =>
    intro I1 J1 a1 a2 a3
    have b1 : ∀ o k, 154 ≤ o → I1 o k = I o k := fun o k ho => a2 o k (by omega) (by omega) (by omega) (by omega) (by omega)
    refine kk (.inr a) I1 J1 Pf hv (fun J2 hJ2 D2 P2 hD2 k2 => hr D2 P2 I1 J2 hD2 (h5.of (fun o y ho => b1 o y (by omega))) (fun o k ho => b1 o k (by omega)) ?_) (fun k => b1 _ _ (by omega)) (a3 _ (by omega))
    replace k2 := fun I2 hi => k2 I2 (INV.j202 hJ2 hi)
    intro I2 d1 d2 d3
    have e1 : ∀ o k, o < 163 → I2 o k = I1 o k := fun o k ho => d2 o k (by omega) (by omega) (by omega) (by omega)
    have e2 : ∀ o k, ¬ (o = 0 ∧ (k = 12 ∨ k = 17)) → o ≠ 97 → o ≠ 101 → ¬ (112 ≤ o ∧ o ≤ 134) → ¬ (137 ≤ o ∧ o ≤ 153) → ¬ (176 ≤ o ∧ o ≤ 177) → o ≠ 181 → ¬ (183 ≤ o ∧ o ≤ 200) → ¬ (o = 163 ∧ (k = 0 ∨ (17 ≤ k ∧ k ≤ 19) ∨ k = 46 ∨ k = 48 ∨ k = 60 ∨ k = 62)) → I2 o k = I o k := fun o k f1 f2 f3 f4 f5 f6 f7 f8 f9 => by
      rw [d2 o k f6 f7 f8 f9, a2 o k f1 f2 f3 f4 f5]
    refine k2 I2 ⟨r, la, w, T, p, m, q, c, ms, L, h1, h2, h3, a1.same hrr h2 (fun o k f1 f2 f3 => e1 o k (by omega)), d1, h6.of (fun o k f1 f2 => e2 o k (by omega) (by omega) (by omega) (by omega) (by omega) (by omega) (by omega) (by omega) (by omega)), h7.of (fun o k f => e2 o k (by omega) (by omega) (by omega) (by omega) (by omega) (by omega) (by omega) (by omega) (by omega)), h8.of (fun o k f => e2 o k (by omega) (by omega) (by omega) (by omega) (by omega) (by omega) (by omega) (by omega) (by omega)), h9.of hla (fun o k f => e2 o k (by omega) (by omega) (by omega) (by omega) (by omega) (by omega) (by omega) (by omega) (by omega))⟩ d3
