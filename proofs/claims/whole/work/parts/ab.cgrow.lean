/-! The class's trees: node by node -/
section GRW
variable {w : Nat → Int32} {T : TX} {H : Nat → Nat → Nat → Nat}
/-- a node that can be -/
def okN (n : Nat) (H : Nat → Nat → Nat → Nat) (c : Nat) (x : ND) : Prop := x.1 < 8 ∧ x.2.1 ≤ x.2.2.1 ∧ x.2.2.1 ≤ n ∧ 0 < H x.1 x.2.1 x.2.2.1 ∧ x.2.2.2 ≤ c
theorem okN.mono {n c c' : Nat} {x : ND} (h : okN n H c x) (hc : c ≤ c') : okN n H c' x := ⟨h.1, h.2.1, h.2.2.1, h.2.2.2.1, Nat.le_trans h.2.2.2.2 hc⟩
theorem kidsN_ok (hG : WG w) {c : Nat} {x : ND} (h : okN T.1 H c x) : (kidsN w T H x).length ≤ 4 ∧ ∀ y, y ∈ kidsN w T H x → okN T.1 H (c + 1) y := by
  obtain ⟨h1, h2, h3, h4, h5⟩ := h
  unfold kidsN kidsW
  by_cases cc : ∃ p, pdW w T H x.1 x.2.1 x.2.2.1 p
  · rw [cif_t cc]
    obtain ⟨p0, hp0⟩ := cc
    obtain ⟨g1, -, -⟩ := lst_le hp0
    have hc4 := (hG.pr g1.1).2.2.1
    obtain ⟨k1, k2⟩ := kidW_ok hG g1.1 h3 _ 0 _ (by rw [Nat.sub_zero]) g1.2.2
    refine ⟨by rw [List.length_map]; omega, fun y hy => ?_⟩
    obtain ⟨z, hz1, hz2⟩ := List.mem_map.mp hy
    obtain ⟨b1, b2, b3, b4⟩ := k2 z hz1
    subst hz2
    exact ⟨b1, b2, Nat.le_trans b3 h3, b4.1, by show x.2.2.2 + 1 ≤ c + 1; omega⟩
  · rw [cif_f cc]
    exact ⟨Nat.zero_le _, fun y hy => absurd hy (by simp)⟩
end GRW
section TRG
variable {d : Nat} {P : am_O → Prop} {J : am_J} {Pf : am_R} {T : TX} {w : Nat → Int32} {r : Nat}
/-- the facts of a node, its ways told or not yet -/
def fctN (I : am_I) (H : Nat → Nat → Nat → Nat) (W : Nat → Nat → Nat → Int32) (x : Nat) (n : ND) : Prop := I 149 (6 * x) = ni n.1 ∧ I 149 (6 * x + 1) = ni n.2.1 ∧ I 149 (6 * x + 2) = ni n.2.2.1 ∧ I 149 (6 * x + 3) = ni (H n.1 n.2.1 n.2.2.1) ∧ (I 149 (6 * x + 4) = -1 ∨ I 149 (6 * x + 4) = W n.1 n.2.1 n.2.2.1) ∧ I 149 (6 * x + 5) = ni n.2.2.2
def fcL (I : am_I) (H : Nat → Nat → Nat → Nat) (W : Nat → Nat → Nat → Int32) (L : List ND) : Prop := ∀ x n, L[x]? = some n → fctN I H W x n
theorem fctN.of {I I' : am_I} {H : Nat → Nat → Nat → Nat} {W : Nat → Nat → Nat → Int32} {x : Nat} {n : ND} (h : fctN I H W x n) (f : ∀ y, y < 6 → I' 149 (6 * x + y) = I 149 (6 * x + y)) : fctN I' H W x n := by
  have f0 := f 0 (by omega)
  rw [Nat.add_zero] at f0
  obtain ⟨a0, a1, a2, a3, a4, a5⟩ := h
  exact ⟨f0.trans a0, (f 1 (by omega)).trans a1, (f 2 (by omega)).trans a2, (f 3 (by omega)).trans a3, by rw [f 4 (by omega)]; exact a4, (f 5 (by omega)).trans a5⟩
def cTlf (I I' : am_I) : Prop := ∀ o y, o ≠ 149 → o ≠ 150 → o ≠ 151 → ¬ (o = 145 ∧ y = 12) → I' o y = I o y
theorem sc_tell (hp : am_PF Pf) (hr : r = 16 ∨ r = 55) (hF : cFn Pf r) (hG : WG w) (hs : sndW w) {I : am_I} {k0 : Nat} (hk0 : cTk r I J w k0 T) (hTo : txOK T) {A : List ND} {x : ND} {c : Nat} (hA : cWt I (A ++ [x])) (hAl : A.length ≤ 597) (hc : I 145 9 = ni c) (hc2 : c < 200) (hx : okN T.1 (HHx w k0 T) 200 x) (W : Nat → Nat → Nat → Int32)
    (kk : ∀ I', cWt I' (A ++ (kidsN w T (HHx w k0 T) x).reverse) → fctN I' (HHx w k0 T) W c x → (∀ y, y < 6 * c → I' 149 y = I 149 y) → cTlf I I' → P (.inl none, (am_SH, I', J, Pf), 0, 0)) : am_mth (d + 5) 132 [.ref 145] (am_SH, I, J, Pf) P := by
  obtain ⟨hR, hTb, hM⟩ := id hk0
  have h24 := hTb.1.2.1
  obtain ⟨x8, xij, xj, xp, xd⟩ := hx
  have hbd := sol_bd hG h24 (HHx_sol hG hs k0 T) x.1 x.2.1 x.2.2.1 x8 xij xj
  obtain ⟨hA1, hA2⟩ := hA
  rw [List.length_append] at hA1
  have hn := hA2 A.length x (by rw [List.getElem?_append_right (Nat.le_refl _), Nat.sub_self]; rfl)
  have e12 : I 145 12 - 1 = ni A.length := by
    rw [hA1]
    exact ni_sub (a := A.length + 1) (b := 1) (by omega)
  have k0' : (ni (A.length * 4)).toNatClampNeg = 4 * A.length := by rw [ni_nat (by omega)]; omega
  have k1' : (ni (A.length * 4 + 1)).toNatClampNeg = 4 * A.length + 1 := by rw [ni_nat (by omega)]; omega
  have k2' : (ni (A.length * 4 + 2)).toNatClampNeg = 4 * A.length + 2 := by rw [ni_nat (by omega)]; omega
  have k3' : (ni (A.length * 4 + 3)).toNatClampNeg = 4 * A.length + 3 := by rw [ni_nat (by omega)]; omega
  have c0' : (ni (c * 6)).toNatClampNeg = 6 * c := by rw [ni_nat (by omega)]; omega
  have c1' : (ni (c * 6 + 1)).toNatClampNeg = 6 * c + 1 := by rw [ni_nat (by omega)]; omega
  have c2' : (ni (c * 6 + 2)).toNatClampNeg = 6 * c + 2 := by rw [ni_nat (by omega)]; omega
  have c3' : (ni (c * 6 + 3)).toNatClampNeg = 6 * c + 3 := by rw [ni_nat (by omega)]; omega
  have c4' : (ni (c * 6 + 4)).toNatClampNeg = 6 * c + 4 := by rw [ni_nat (by omega)]; omega
  have c5' : (ni (c * 6 + 5)).toNatClampNeg = 6 * c + 5 := by rw [ni_nat (by omega)]; omega
  have hh : (ni ((x.1 * 25 + x.2.1) * 25 + x.2.2.1)).toNatClampNeg = 25 * (25 * x.1 + x.2.1) + x.2.2.1 := by rw [ni_nat (by omega)]; omega
  refine am_mth_of rfl rfl (v132_0 hp ?_)
  rw [e12, hc, show (4 : Int32) = ni 4 from rfl, show (6 : Int32) = ni 6 from rfl, ni_mul, ni_mul c 6, ni_p1 (A.length * 4), ni_p2 (A.length * 4), ni_p3 (A.length * 4), ni_p1 (c * 6), ni_p2 (c * 6), ni_p3 (c * 6), ni_add (c * 6) 4, show ni (c * 6) + 5 = ni (c * 6 + 5) from ni_add (c * 6) 5, k0', k1', k2', k3', hn.1, hn.2.1, hn.2.2.1, hn.2.2.2, show (25 : Int32) = ni 25 from rfl, ni_mul x.1 25, ni_add (x.1 * 25) x.2.1, ni_mul (x.1 * 25 + x.2.1) 25, ni_add ((x.1 * 25 + x.2.1) * 25) x.2.2.1, hh, hM.2 x.1 x.2.1 x.2.2.1 x8 xij xj xp, c0', c1', c2', c3', c4', c5', ni_p1 x.2.2.2]
  refine ⟨ni_in (by omega) (by omega), ni_in (by omega) (by omega), ni_in (by omega) (by omega), ni_in (by omega) (by omega), ni_in (by omega) (by omega), ni_in (by omega) (by omega), ni_in (by omega) (by omega), ni_in (by omega) (by omega), ni_in (by omega) (by omega), ni_in (by omega) (by omega), ni_in (by omega) (by omega), ?_⟩
  generalize hI1 : am_u (am_u (am_u (am_u (am_u (am_u (am_u I 145 12 (ni A.length)) 149 (6 * c) (ni x.1)) 149 (6 * c + 1) (ni x.2.1)) 149 (6 * c + 2) (ni x.2.2.1)) 149 (6 * c + 3) (ni (HHx w k0 T x.1 x.2.1 x.2.2.1))) 149 (6 * c + 4) (-1)) 149 (6 * c + 5) (ni x.2.2.2) = I1
  have u : ∀ o y, o ≠ 149 → ¬ (o = 145 ∧ y = 12) → I1 o y = I o y := fun o y e1 e2 => by
    rw [← hI1, am_u_nq (by omega), am_u_nq (by omega), am_u_nq (by omega), am_u_nq (by omega), am_u_nq (by omega), am_u_nq (by omega), am_u_nq e2]
  have u9 : ∀ y, ¬ (6 * c ≤ y ∧ y < 6 * c + 6) → I1 149 y = I 149 y := fun y e => by
    rw [← hI1, am_u_nq (by omega), am_u_nq (by omega), am_u_nq (by omega), am_u_nq (by omega), am_u_nq (by omega), am_u_nq (by omega), am_u_nq (by omega)]
  have f0 : fctN I1 (HHx w k0 T) W c x := by
    rw [← hI1]
    refine ⟨?_, ?_, ?_, ?_, Or.inl ?_, ?_⟩
    · rw [am_u_nq (by omega), am_u_nq (by omega), am_u_nq (by omega), am_u_nq (by omega), am_u_nq (by omega), am_u_same]
    · rw [am_u_nq (by omega), am_u_nq (by omega), am_u_nq (by omega), am_u_nq (by omega), am_u_same]
    · rw [am_u_nq (by omega), am_u_nq (by omega), am_u_nq (by omega), am_u_same]
    · rw [am_u_nq (by omega), am_u_nq (by omega), am_u_same]
    · rw [am_u_nq (by omega), am_u_same]
    · rw [am_u_same]
  have h1' : cTk r I1 J w k0 T := hk0.of hr hG (fun o y e => u o y (by omega) (by omega)) (u _ _ (by omega) (by omega)) (fun y => u _ _ (by omega) (by omega))
  have hW1 : cWt I1 A := ⟨by rw [← hI1, am_u_nq (by omega), am_u_nq (by omega), am_u_nq (by omega), am_u_nq (by omega), am_u_nq (by omega), am_u_nq (by omega), am_u_same], fun y n hy => (hA2 y n (by rw [List.getElem?_append_left (List.getElem?_eq_some_iff.mp hy).1]; exact hy)).of (fun z _ => u _ _ (by omega) (by omega))⟩
  refine sc_branch (d := d) hp hr hF hG hs h1' hTo x8 xij xj xp (by omega) hW1 hAl (fun I2 a1 a2 => am_back (v132_156 hp ?_))
  exact kk I2 a1 (f0.of (fun y _ => a2 _ _ (by omega) (by omega) (by omega))) (fun y hy => (a2 _ _ (by omega) (by omega) (by omega)).trans (u9 y (by omega))) (fun o y e1 e2 e3 e4 => (a2 o y e2 e3 e4).trans (u o y e1 e4))
/-- a tree that is told -/
def cGrn (I : am_I) (w : Nat → Int32) (k0 : Nat) (T : TX) (s i j : Nat) : Prop := I 145 9 = ni (treeW w T (HHx w k0 T) s i j).length ∧ fcL I (HHx w k0 T) (wyM w T (pos (HHx w k0 T)) (QQx w k0 T)) (treeW w T (HHx w k0 T) s i j)
/-- the tree that is kept is right -/
def cGs (I : am_I) (w : Nat → Int32) (k0 : Nat) (T : TX) : Prop := ∀ s i j, s < 8 → i ≤ j → j ≤ T.1 → 0 < HHx w k0 T s i j → I 145 6 = ni s → I 145 7 = ni i → I 145 8 = ni j → cGrn I w k0 T s i j
def cGf (I I' : am_I) : Prop := ∀ o y, ¬ (146 ≤ o ∧ o ≤ 151) → ¬ (o = 145 ∧ (y = 2 ∨ y = 6 ∨ y = 7 ∨ y = 8 ∨ y = 9 ∨ y = 12)) → I' o y = I o y
theorem groW_len {w : Nat → Int32} {T : TX} {H : Nat → Nat → Nat → Nat} : ∀ (r : Nat) (st : List ND), (groW w T H r st).length ≤ r
  | 0, _ => by show ([] : List ND).length ≤ 0; exact Nat.le_refl _
  | r + 1, [] => by show ([] : List ND).length ≤ _; exact Nat.zero_le _
  | r + 1, x :: st => by
    have := groW_len (w := w) (T := T) (H := H) r (kidsN w T H x ++ st)
    show (x :: groW w T H r _).length ≤ _
    simp only [List.length_cons]
    omega
theorem sc_grow (hp : am_PF Pf) (hr : r = 16 ∨ r = 55) (hF : cFn Pf r) (hG : WG w) (hs : sndW w) {I : am_I} (hR : cRs r I J w) {k0 : Nat} (hTb : cTb 135 I w k0 T) (hTo : txOK T) (hM : I 145 2 = 0 ∨ cMd I T.1 (HHx w k0 T)) (hGs : cGs I w k0 T) {s i j : Nat} (h8 : s < 8) (hij : i ≤ j) (hj : j ≤ T.1)
    (kk : ∀ I', (I' 145 2 = 0 ∨ cMd I' T.1 (HHx w k0 T)) → cGs I' w k0 T → cGf I I' → (0 < HHx w k0 T s i j → cGrn I' w k0 T s i j) → P (.inl (some (.int (if HHx w k0 T s i j = 0 then 0 else ni (treeW w T (HHx w k0 T) s i j).length))), (am_SH, I', J, Pf), 0, 0)) : am_mth (d + 7) 130 [.ref 145, .int (ni s), .int (ni i), .int (ni j)] (am_SH, I, J, Pf) P := by
  have h24 := hTb.1.2.1
  have hrow := (hTb.2.2 i (by omega)).1 s h8
  refine am_mth_of rfl rfl (v130_0 hp ?_)
  rw [show (25 : Int32) = ni 25 from rfl, ni_mul, ni_add, show (ni (s * 25 + i)).toNatClampNeg = 25 * s + i by rw [ni_nat (by omega)]; omega]
  refine ⟨ni_in (by omega) (by omega), ?_⟩
  by_cases c : HHx w k0 T s i j = 0
  · rw [if_pos ((bts_us hrow (by omega)).mpr (fun z => by have := z.2.2; unfold pos at this; omega))]
    have := kk I hM hGs (fun _ _ _ _ => rfl) (fun z => absurd c (by omega))
    rw [if_pos c] at this
    exact this
  rw [if_neg (fun z => (bts_us hrow (by omega)).mp z ⟨hij, hj, Nat.pos_of_ne_zero c⟩)]
  have hpos : 0 < HHx w k0 T s i j := Nat.pos_of_ne_zero c
  -- grown anew
  have NEW : am_go none (d + 6) 130 (44, [some (.ref 145), some (.int (ni s)), some (.int (ni i)), some (.int (ni j))], [], (am_SH, I, J, Pf), 0, 0) P := by
    refine v130_44 hp ?_
    refine sc_measure (d := d + 1) hp hr hF hG hs hR hTb hTo hM (fun I1 m1 f1 => am_back (v130_48 hp ?_))
    have hTk1 : cTk r I1 J w k0 T := ⟨hR.low hr hG (fun o y e => f1 o y (by omega) (by omega) (by omega) (by omega)) (fun _ _ => rfl), hTb.of (fun o y e1 e2 => f1 o y (by omega) (by omega) (by omega) (by omega)), m1⟩
    rw [if_pos (by decide)]
    refine ⟨by decide, by decide, by decide, by decide, ?_⟩
    have z0 : ((0 : Int32) * 4).toNatClampNeg = 0 := by decide
    have z1 : ((0 : Int32) * 4 + 1).toNatClampNeg = 1 := by decide
    have z2 : ((0 : Int32) * 4 + 2).toNatClampNeg = 2 := by decide
    have z3 : ((0 : Int32) * 4 + 3).toNatClampNeg = 3 := by decide
    rw [z0, z1, z2, z3]
    -- the loop
    have LP : ∀ (m : Nat) (I2 : am_I) (L A : List ND) (l1 l2 l3 : Option Value), 200 - L.length ≤ m → L.length ≤ 200 → cTk r I2 J w k0 T → I2 145 6 = ni s → I2 145 7 = ni i → I2 145 8 = ni j → I2 145 9 = ni L.length → cWt I2 A → A.length ≤ 1 + 3 * L.length → (∀ x, x ∈ A → okN T.1 (HHx w k0 T) L.length x) → fcL I2 (HHx w k0 T) (wyM w T (pos (HHx w k0 T)) (QQx w k0 T)) L → treeW w T (HHx w k0 T) s i j = L ++ groW w T (HHx w k0 T) (200 - L.length) A.reverse → cGf I I2 → am_go none (d + 6) 130 (81, [some (.ref 145), l1, l2, l3], [], (am_SH, I2, J, Pf), 0, 0) P := by
      -- at the end
      have FIN : ∀ (I2 : am_I) (L : List ND), L.length ≤ 200 → cTk r I2 J w k0 T → I2 145 6 = ni s → I2 145 7 = ni i → I2 145 8 = ni j → I2 145 9 = ni L.length → fcL I2 (HHx w k0 T) (wyM w T (pos (HHx w k0 T)) (QQx w k0 T)) L → treeW w T (HHx w k0 T) s i j = L → cGf I I2 → P (.inl (some (.int (I2 145 9))), (am_SH, I2, J, Pf), 0, 0) := by
        intro I2 L hL hTk2 e6 e7 e8 e9 hfc heq hf2
        have hgn : cGrn I2 w k0 T s i j := by unfold cGrn; rw [heq]; exact ⟨e9, hfc⟩
        have := kk I2 (Or.inr hTk2.2.2) (fun s' i' j' b1 b2 b3 b4 b5 b6 b7 => by
          have a6 := (ni_inj (by omega) (by omega)).mp (e6.symm.trans b5)
          have a7 := (ni_inj (by omega) (by omega)).mp (e7.symm.trans b6)
          have a8 := (ni_inj (by omega) (by omega)).mp (e8.symm.trans b7)
          subst a6; subst a7; subst a8
          exact hgn) hf2 (fun _ => hgn)
        rw [if_neg c, heq, ← e9] at this
        exact this
      intro m
      induction m with
      | zero =>
        intro I2 L A l1 l2 l3 hm hL hTk2 e6 e7 e8 e9 hW hAl hok hfc heq hf2
        refine v130_81 hp ?_
        rw [e9, if_pos ((gle 200 (by omega) (by omega)).mpr (by omega)), ← e9]
        refine FIN I2 L hL hTk2 e6 e7 e8 e9 hfc ?_ hf2
        rw [heq, show 200 - L.length = 0 by omega]
        exact List.append_nil _
      | succ m ih =>
        intro I2 L A l1 l2 l3 hm hL hTk2 e6 e7 e8 e9 hW hAl hok hfc heq hf2
        refine v130_81 hp ?_
        by_cases cL : 200 ≤ L.length
        · rw [e9, if_pos ((gle 200 (by omega) (by omega)).mpr cL), ← e9]
          refine FIN I2 L hL hTk2 e6 e7 e8 e9 hfc ?_ hf2
          rw [heq, show 200 - L.length = 0 by omega]
          exact List.append_nil _
        rw [e9, if_neg (fun z => cL ((gle 200 (by omega) (by omega)).mp z)), hW.1]
        by_cases cA : A.length = 0
        · rw [if_pos ((lle 0 (by omega) (by omega)).mpr (by omega)), ← e9]
          refine FIN I2 L hL hTk2 e6 e7 e8 e9 hfc ?_ hf2
          have : A = [] := List.eq_nil_of_length_eq_zero cA
          rw [heq, this, show 200 - L.length = (200 - L.length - 1) + 1 by omega]
          exact List.append_nil _
        · rw [if_neg (fun z => absurd ((lle 0 (by omega) (by omega)).mp z) (by omega))]
          obtain ⟨A', x, rfl⟩ : ∃ A' x, A = A' ++ [x] := ⟨A.dropLast, A.getLast (fun z => cA (by rw [z]; rfl)), (List.dropLast_concat_getLast _).symm⟩
          have hx := hok x (List.mem_append_right _ (List.mem_singleton.mpr rfl))
          have hA'l : A'.length ≤ 3 * L.length := by
            rw [List.length_append] at hAl
            simp only [List.length_cons, List.length_nil] at hAl
            omega
          obtain ⟨kl, ko⟩ := kidsN_ok hG hx
          refine sc_tell (d := d + 1) hp hr hF hG hs hTk2 hTo hW (by omega) e9 (by omega) (hx.mono (by omega)) (wyM w T (pos (HHx w k0 T)) (QQx w k0 T)) (fun I3 b1 b2 b3 b4 => am_back (v130_102 hp ?_))
          have e93 : I3 145 9 = ni L.length := by rw [b4 _ _ (by omega) (by omega) (by omega) (by omega)]; exact e9
          rw [e93, ni_p1]
          have hlen : (L ++ [x]).length = L.length + 1 := by rw [List.length_append]; rfl
          refine ih (am_u I3 145 9 (ni (L.length + 1))) (L ++ [x]) (A' ++ (kidsN w T (HHx w k0 T) x).reverse) _ _ _ (by rw [hlen]; omega) (by rw [hlen]; omega) ?_ ?_ ?_ ?_ ?_ ?_ ?_ ?_ ?_ ?_ ?_
          · exact hTk2.of hr hG (fun o y e => by rw [am_u_nq (by omega)]; exact b4 o y (by omega) (by omega) (by omega) (by omega)) (by rw [am_u_nq (by omega)]; exact b4 _ _ (by omega) (by omega) (by omega) (by omega)) (fun y => by rw [am_u_nq (by omega)]; exact b4 _ _ (by omega) (by omega) (by omega) (by omega))
          · rw [am_u_nq (by omega), b4 _ _ (by omega) (by omega) (by omega) (by omega)]; exact e6
          · rw [am_u_nq (by omega), b4 _ _ (by omega) (by omega) (by omega) (by omega)]; exact e7
          · rw [am_u_nq (by omega), b4 _ _ (by omega) (by omega) (by omega) (by omega)]; exact e8
          · rw [am_u_same, hlen]
          · exact ⟨by rw [am_u_nq (by omega)]; exact b1.1, fun y n hy => (b1.2 y n hy).of (fun z _ => am_u_nq (by omega))⟩
          · rw [List.length_append, List.length_reverse, hlen]; omega
          · intro y hy
            rw [hlen]
            rcases List.mem_append.mp hy with h | h
            · exact (hok y (List.mem_append_left _ h)).mono (by omega)
            · exact ko y (List.mem_reverse.mp h)
          · intro y n hy
            by_cases cy : y < L.length
            · rw [List.getElem?_append_left cy] at hy
              exact (hfc y n hy).of (fun z hz => by rw [am_u_nq (by omega)]; exact b3 _ (by omega))
            · rw [List.getElem?_append_right (by omega)] at hy
              by_cases cy2 : y = L.length
              · subst cy2
                rw [Nat.sub_self] at hy
                cases hy
                exact b2.of (fun z hz => am_u_nq (by omega))
              · rw [show ([x] : List ND)[y - L.length]? = none from List.getElem?_eq_none (by simp only [List.length_cons, List.length_nil]; omega)] at hy
                cases hy
          · rw [heq, hlen, List.reverse_append, List.append_assoc, show 200 - L.length = (200 - (L.length + 1)) + 1 by omega]
            congr 1
            show groW w T (HHx w k0 T) (200 - (L.length + 1) + 1) (x :: A'.reverse) = x :: groW w T (HHx w k0 T) (200 - (L.length + 1)) ((A' ++ (kidsN w T (HHx w k0 T) x).reverse).reverse)
            rw [List.reverse_append, List.reverse_reverse]
            rfl
          · intro o y e1 e2
            rw [am_u_nq (by omega), b4 _ _ (by omega) (by omega) (by omega) (by omega)]
            exact hf2 o y e1 e2
    generalize hI2 : am_u (am_u (am_u (am_u (am_u (am_u (am_u (am_u (am_u (am_u I1 145 6 (ni s)) 145 7 (ni i)) 145 8 (ni j)) 145 12 0) 150 0 (ni s)) 150 1 (ni i)) 150 2 (ni j)) 150 3 0) 145 12 ((0 : Int32) + 1)) 145 9 0 = I2
    have u : ∀ o y, o ≠ 150 → ¬ (o = 145 ∧ (y = 6 ∨ y = 7 ∨ y = 8 ∨ y = 9 ∨ y = 12)) → I2 o y = I1 o y := fun o y e1 e2 => by
      rw [← hI2, am_u_nq (by omega), am_u_nq (by omega), am_u_nq (by omega), am_u_nq (by omega), am_u_nq (by omega), am_u_nq (by omega), am_u_nq (by omega), am_u_nq (by omega), am_u_nq (by omega), am_u_nq (by omega)]
    refine LP 200 I2 [] [(s, i, j, 0)] _ _ _ (Nat.le_refl _) (by simp) (hTk1.of hr hG (fun o y e => u o y (by omega) (by omega)) (u _ _ (by omega) (by omega)) (fun y => u _ _ (by omega) (by omega))) ?_ ?_ ?_ ?_ ⟨?_, fun x n hx => ?_⟩ (by simp) (fun x hx => ?_) (fun x n hx => by cases hx) rfl (fun o y e1 e2 => ?_)
    · rw [← hI2, am_u_nq (by omega), am_u_nq (by omega), am_u_nq (by omega), am_u_nq (by omega), am_u_nq (by omega), am_u_nq (by omega), am_u_nq (by omega), am_u_nq (by omega), am_u_nq (by omega), am_u_same]
    · rw [← hI2, am_u_nq (by omega), am_u_nq (by omega), am_u_nq (by omega), am_u_nq (by omega), am_u_nq (by omega), am_u_nq (by omega), am_u_nq (by omega), am_u_nq (by omega), am_u_same]
    · rw [← hI2, am_u_nq (by omega), am_u_nq (by omega), am_u_nq (by omega), am_u_nq (by omega), am_u_nq (by omega), am_u_nq (by omega), am_u_nq (by omega), am_u_same]
    · rw [← hI2, am_u_same]; rfl
    · rw [← hI2, am_u_nq (by omega), am_u_same]; rfl
    · have : x = 0 := by
        have := (List.getElem?_eq_some_iff.mp hx).1
        simp only [List.length_cons, List.length_nil] at this
        omega
      subst this
      cases hx
      refine ⟨?_, ?_, ?_, ?_⟩
      · rw [← hI2, am_u_nq (by omega), am_u_nq (by omega), am_u_nq (by omega), am_u_nq (by omega), am_u_nq (by omega)]; exact am_u_same
      · rw [← hI2, am_u_nq (by omega), am_u_nq (by omega), am_u_nq (by omega), am_u_nq (by omega)]; exact am_u_same
      · rw [← hI2, am_u_nq (by omega), am_u_nq (by omega), am_u_nq (by omega)]; exact am_u_same
      · rw [← hI2, am_u_nq (by omega), am_u_nq (by omega)]; exact am_u_same
    · rw [List.mem_singleton.mp hx]
      exact ⟨h8, hij, hj, hpos, Nat.le_refl _⟩
    · rw [u o y (by omega) (by omega)]
      exact f1 o y (by omega) (by omega) (by omega) (by omega)
  split
  · rename_i c6
    split
    · rename_i c7
      split
      · rename_i c8
        have hgn := hGs s i j h8 hij hj hpos c6.symm c7.symm c8.symm
        have := kk I hM hGs (fun _ _ _ _ => rfl) (fun _ => hgn)
        rw [if_neg c, ← hgn.1] at this
        exact this
      · exact NEW
    · exact NEW
  · exact NEW
end TRG
