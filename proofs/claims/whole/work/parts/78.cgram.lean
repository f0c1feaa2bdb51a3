/-! The class: words, parts; what its rules hold against a row -/
/-- what may have changed in the class, a clause read -/
def cBf (r : Nat) (I I' : am_I) : Prop := ∀ o k, ¬ (o = 1 ∧ (k = 3 ∨ k = 7 ∨ k = 8 ∨ k = 9)) → ¬ (5 ≤ o ∧ o ≤ 7) → ¬ (r ≤ o ∧ o < r + 39) → I' o k = I o k
theorem cBf.rfl' {r : Nat} {I : am_I} : cBf r I I := fun _ _ _ _ _ => rfl
theorem cBf.trans {r : Nat} {I I' I'' : am_I} (h : cBf r I I') (g : cBf r I' I'') : cBf r I I'' := fun o k e1 e2 e3 => (g o k e1 e2 e3).trans (h o k e1 e2 e3)
theorem cBf.fr {r : Nat} {I I' : am_I} (h : cBf r I I') : cFr r I I' := fun o k e1 e2 e3 e4 => h o k (fun z => e1 ⟨z.1, by omega⟩) e3 e4
theorem cRd.bf {r : Nat} {I I' : am_I} (h : cRd I I') : cBf r I I' := fun o k e _ _ => h o k e
theorem cBf.u {r : Nat} {I I' : am_I} (h : cBf r I I') {o k : Nat} {v : Int32} (e : (5 ≤ o ∧ o ≤ 7) ∨ (r ≤ o ∧ o < r + 39)) : cBf r I (am_u I' o k v) := by
  intro o' k' e1 e2 e3
  rw [am_u_nq (by rintro ⟨rfl, rfl⟩; rcases e with e | e; exact e2 e; exact e3 e)]
  exact h o' k' e1 e2 e3
def cGe (r : Nat) (I : am_I) (w : Nat → Int32) (j e : Nat) : Prop := I (r + 5) j = w e ∧ (w e ≠ 2 → I (r + 6) j = w (e + 1)) ∧ (w e = 2 → I (r + 6) j = w (e + 2) ∧ ∀ i, i < wN w (e + 2) → I (r + 7) (8 * j + i) = w (e + 3 + i))
def cGp (r : Nat) (I : am_I) (w : Nat → Int32) (p : Nat) : Prop := I (r + 2) p = w (32 + 3 * p) ∧ I (r + 3) p = w (32 + 3 * p + 1) ∧ I (r + 4) p = w (32 + 3 * p + 2) ∧ ∀ k, k < wN w (32 + 3 * p + 2) → cGe r I w (4 * p + k) (eP p k)
def cGq (r : Nat) (I : am_I) (w : Nat → Int32) (q : Nat) : Prop := I (r + 8) q = w (972 + 5 * q) ∧ I (r + 9) q = w (972 + 5 * q + 1) ∧ ∀ i, i < 3 → I (r + 10) (3 * q + i) = w (972 + 5 * q + 2 + i)
def cGn (r : Nat) (I : am_I) (w : Nat → Int32) (j : Nat) : Prop := I (r + 11) j = w (992 + 2 * j) ∧ I (r + 12) j = w (992 + 2 * j + 1)
def cGd (r : Nat) (I : am_I) (w : Nat → Int32) (d : Nat) : Prop := I (r + 13) d = w (1008 + 4 * d) ∧ I (r + 14) d = w (1008 + 4 * d + 1)
/-- where the drops stand, while a text is read -/
def cGx (I : am_I) (w : Nat → Int32) (d : Nat) : Prop := I 5 d = w (1008 + 4 * d + 2) ∧ I 6 d = w (1008 + 4 * d + 3)
def cGc (r : Nat) (J : am_J) (w : Nat → Int32) (c : Nat) : Prop := (∀ k, k < 95 → sgD J (cO r + c) k = wCls w c k) ∧ sgT J (cO r + c)
def cG (r : Nat) (I : am_I) (J : am_J) (w : Nat → Int32) : Prop := (I r 1 = w 0 ∧ I r 2 = w 1 ∧ I r 9 = w 2 ∧ I r 13 = w 3 ∧ I r 16 = w 4 ∧ I r 19 = w 5) ∧ (∀ c, c < wN w 0 → cGc r J w c) ∧ (∀ p, p < wN w 1 → cGp r I w p) ∧ (∀ q, q < wN w 2 → cGq r I w q) ∧ (∀ j, j < wN w 3 → cGn r I w j) ∧ (∀ d, d < wN w 4 → cGd r I w d)
theorem cGe.of {r : Nat} {I I' : am_I} {w w' : Nat → Int32} {j e n0 : Nat} (h : cGe r I w j e) (hp : pOK w n0 e) (f5 : I' (r + 5) j = I (r + 5) j) (f6 : I' (r + 6) j = I (r + 6) j) (f7 : ∀ i, i < 8 → I' (r + 7) (8 * j + i) = I (r + 7) (8 * j + i)) (g : ∀ i, i < 11 → w' (e + i) = w (e + i)) : cGe r I' w' j e := by
  obtain ⟨h1, h2, h3⟩ := h
  have g0 : w' e = w e := g 0 (by omega)
  have g2 : wN w' (e + 2) = wN w (e + 2) := by unfold wN; rw [g 2 (by omega)]
  refine ⟨by rw [f5, g0]; exact h1, fun z => ?_, fun z => ?_⟩
  · rw [f6, g 1 (by omega)]; exact h2 (by rw [← g0]; exact z)
  · rw [g0] at z
    obtain ⟨k1, k2⟩ := h3 z
    have hm : wN w (e + 2) ≤ 8 := by
      rcases hp with ⟨q1, -⟩ | ⟨q1, -⟩ | ⟨q1, m, q2, q3, q4, -⟩
      · rw [q1] at z; exact absurd z (by decide)
      · rw [q1] at z; exact absurd z (by decide)
      · unfold wN; rw [q4, ni_nat (by omega)]; exact q3
    refine ⟨by rw [f6, g 2 (by omega)]; exact k1, fun i hi => ?_⟩
    rw [g2] at hi
    have := g (3 + i) (by omega)
    rw [← Nat.add_assoc] at this
    rw [f7 i (by omega), this]
    exact k2 i hi
theorem cGp.of {r : Nat} {I I' : am_I} {w w' : Nat → Int32} {p n0 : Nat} (h : cGp r I w p) (hp : prOK w n0 p) (f : ∀ o, (o = r + 2 ∨ o = r + 3 ∨ o = r + 4) → I' o p = I o p) (f5 : ∀ o k, (o = r + 5 ∨ o = r + 6) → k < 4 → I' o (4 * p + k) = I o (4 * p + k)) (f7 : ∀ i, i < 32 → I' (r + 7) (32 * p + i) = I (r + 7) (32 * p + i)) (g3 : ∀ i, i < 3 → w' (32 + 3 * p + i) = w (32 + 3 * p + i)) (g : ∀ i, i < 44 → w' (92 + 44 * p + i) = w (92 + 44 * p + i)) : cGp r I' w' p := by
  obtain ⟨h1, h2, h3, h4⟩ := h
  obtain ⟨s, m, q1, q2, q3, q4, q5, q6⟩ := hp
  have em : wN w (32 + 3 * p + 2) = m := by unfold wN; rw [q5, ni_nat (by omega)]
  have em' : wN w' (32 + 3 * p + 2) = m := by unfold wN; rw [g3 2 (by omega), q5, ni_nat (by omega)]
  refine ⟨by rw [f _ (by omega), h1]; exact (g3 0 (by omega)).symm, by rw [f _ (by omega), h2]; exact (g3 1 (by omega)).symm, by rw [f _ (by omega), h3]; exact (g3 2 (by omega)).symm, fun k hk => ?_⟩
  rw [em'] at hk
  refine (h4 k (by rw [em]; exact hk)).of (q6 k hk) (f5 _ k (by omega) (by omega)) (f5 _ k (by omega) (by omega)) (fun i hi => ?_) (fun i hi => ?_)
  · have := f7 (8 * k + i) (by omega)
    rw [show 32 * p + (8 * k + i) = 8 * (4 * p + k) + i by omega] at this
    exact this
  · have := g (11 * k + i) (by omega)
    rw [show 92 + 44 * p + (11 * k + i) = eP p k + i by unfold eP; omega] at this
    exact this
theorem cGq.of {r : Nat} {I I' : am_I} {w w' : Nat → Int32} {q : Nat} (h : cGq r I w q) (f8 : I' (r + 8) q = I (r + 8) q) (f9 : I' (r + 9) q = I (r + 9) q) (fa : ∀ i, i < 3 → I' (r + 10) (3 * q + i) = I (r + 10) (3 * q + i)) (g : ∀ i, i < 5 → w' (972 + 5 * q + i) = w (972 + 5 * q + i)) : cGq r I' w' q := by
  obtain ⟨h1, h2, h3⟩ := h
  refine ⟨by rw [f8, h1]; exact (g 0 (by omega)).symm, by rw [f9, h2]; exact (g 1 (by omega)).symm, fun i hi => ?_⟩
  have := g (2 + i) (by omega)
  rw [← Nat.add_assoc] at this
  rw [fa i hi, h3 i hi, this]
theorem cGn.of {r : Nat} {I I' : am_I} {w w' : Nat → Int32} {j : Nat} (h : cGn r I w j) (f1 : I' (r + 11) j = I (r + 11) j) (f2 : I' (r + 12) j = I (r + 12) j) (g : ∀ i, i < 2 → w' (992 + 2 * j + i) = w (992 + 2 * j + i)) : cGn r I' w' j :=
  ⟨by rw [f1, h.1]; exact (g 0 (by omega)).symm, by rw [f2, h.2]; exact (g 1 (by omega)).symm⟩
theorem cGd.of {r : Nat} {I I' : am_I} {w w' : Nat → Int32} {j : Nat} (h : cGd r I w j) (f1 : I' (r + 13) j = I (r + 13) j) (f2 : I' (r + 14) j = I (r + 14) j) (g : ∀ i, i < 2 → w' (1008 + 4 * j + i) = w (1008 + 4 * j + i)) : cGd r I' w' j :=
  ⟨by rw [f1, h.1]; exact (g 0 (by omega)).symm, by rw [f2, h.2]; exact (g 1 (by omega)).symm⟩
theorem cGc.of {r : Nat} {J J' : am_J} {w w' : Nat → Int32} {c : Nat} (h : cGc r J w c) (f : J' (cO r + c) = J (cO r + c)) (g : ∀ i, i < 3 → w' (8 + 3 * c + i) = w (8 + 3 * c + i)) : cGc r J' w' c := by
  refine ⟨fun k hk => ?_, sgT_o f h.2⟩
  rw [sgD_o f, h.1 k hk]
  unfold wCls
  have g0 : w' (8 + 3 * c) = w (8 + 3 * c) := g 0 (by omega)
  rw [g0, g 1 (by omega), g 2 (by omega)]
section CG
variable {d : Nat} {P : am_O → Prop} {J : am_J} {Pf : am_R} {n r : Nat} {I : am_I} {a : Nat}
/-- a word, read into row o from q on -/
theorem sc_word (hp : am_PF Pf) (h : RD I n a) (h5 : I 1 5 = 0) {o q L : Nat} (ho : am_SH[o]? = some (.inr (0, L))) (h1 : o ≠ 1) (h2 : o ≠ 2) (hor : (5 ≤ o ∧ o ≤ 7) ∨ (r ≤ o ∧ o < r + 39)) (hq : q + 8 ≤ L) (hL : L < 2147483648)
    (kk : rm2 (mWord (I 2) n a) (fun z => (z.1.length ≤ 8 → RD (am_rw (am_u (am_u I 1 9 (ni z.2.1)) 1 3 (ni (z.2.2 + 1))) o (wrow (I o) q z.1)) n (z.2.2 + 1) → P (.inl (some (.int (ni z.1.length))), (am_SH, am_rw (am_u (am_u I 1 9 (ni z.2.1)) 1 3 (ni (z.2.2 + 1))) o (wrow (I o) q z.1), J, Pf), 0, 0)) ∧ (8 < z.1.length → ∀ I', cFF r I I' J J 2 z.2.2 → z.2.2 ≤ 600 → P (.inl (some (.int (-1))), (am_SH, I', J, Pf), 0, 0))) (fun kd pl => ∀ I', cFF r I I' J J kd pl → pl ≤ 600 → P (.inl (some (.int (-1))), (am_SH, I', J, Pf), 0, 0))) :
    am_mth (d + 4) 65 [.ref 1, .ref o, .int (ni q)] (am_SH, I, J, Pf) P := by
  have hr := rsk_le (b := I 2) h.2.2.1
  have hn := h.2.2.2
  unfold mWord mTake at kk
  have frw : ∀ (M : am_I) (l : List Int32), cFr r I M → cFr r I (am_rw M o (wrow (I o) q l)) := by
    intro M l hM o' k e1 e2 e3 e4
    rw [am_rw_o (by rintro rfl; rcases hor with z | z; exact e3 z; exact e4 z)]
    exact hM o' k e1 e2 e3 e4
  refine sp_rd_takeWord hp h ho h1 h2 hq hL (fun c => ?_) (fun c => ?_)
  · have c2 : ¬ hz (I 2) n (rsk (I 2) n a) = 39 := fun z => c ((hv_hz (by decide) (by decide)).mpr z)
    rw [if_neg c2] at kk
    exact kk _ (cFF.fail (cRd.rfl'.u (by omega)).fr cJr.rfl' (by rw [am_u_nq (by omega)]; exact h5)) (by omega)
  · have c2 := (hv_hz (by decide) (by decide)).mp c
    have hlt := hz_0 c2 (by decide)
    rw [if_pos c2] at kk
    dsimp only [rb] at kk
    have hle := wdL_le (b := I 2) (n := n) (n - (rsk (I 2) n a + 1)) (rsk (I 2) n a + 1) (by omega)
    rw [Nat.add_sub_cancel] at kk
    generalize wdL (I 2) n (n - (rsk (I 2) n a + 1)) (rsk (I 2) n a + 1) = y at *
    have g5 : ∀ x y : Int32, am_u (am_u I 1 9 x) 1 3 y 1 5 = 0 := fun x y => by rw [am_u_nq (by omega), am_u_nq (by omega)]; exact h5
    have g5' : ∀ (x y : Int32) (l : List Int32), am_rw (am_u (am_u I 1 9 x) 1 3 y) o (wrow (I o) q l) 1 5 = 0 := fun x y l => by rw [am_rw_o (fun z => h1 z.symm)]; exact g5 x y
    refine ⟨fun e1 e2 e3 e4 => ?_, fun e1 e2 e3 => ?_, fun e => ?_⟩
    · rw [if_pos ⟨e1, e2, e3⟩] at kk
      refine kk.1 e4 ?_
      refine RD.rw ?_ h1
      exact (h.oth (by omega) (by omega)).at (Nat.succ_le_of_lt e2)
    · rw [if_pos ⟨e1, e2, fun z => by rw [z] at e3; simp at e3⟩] at kk
      exact kk.2 e3 _ (cFF.fail (frw _ _ ((cRd.rfl'.u (by omega)).u (by omega)).fr) cJr.rfl' (g5' _ _ _)) (by show y.2.1 ≤ 600; omega)
    · rw [if_neg (by
        rintro ⟨z1, z2, z3⟩
        rcases e with e | e | e
        · rw [z1] at e; cases e
        · omega
        · exact z3 e)] at kk
      exact kk _ (cFF.fail (frw _ _ ((cRd.rfl'.u (by omega)).u (by omega)).fr) cJr.rfl' (g5' _ _ _)) (by show y.2.1 ≤ 600; omega)
/-- one part has been read -/
def cPX (r : Nat) (I I' : am_I) (n j : Nat) (w' : Nat → Int32) (e a' : Nat) : Prop := RD I' n a' ∧ cGe r I' w' j e ∧ (∀ o k, ¬ (o = 1 ∧ (k = 3 ∨ k = 7 ∨ k = 8 ∨ k = 9)) → ¬ (o = r + 5 ∧ k = j) → ¬ (o = r + 6 ∧ k = j) → ¬ (o = r + 7 ∧ 8 * j ≤ k ∧ k < 8 * j + 8) → I' o k = I o k)
theorem sc_part (hp : am_PF Pf) (h30 : Pf 3 0 = some 1) (h31 : Pf 3 1 = some r) (hr : r = 16 ∨ r = 55) {cc j e q : Nat} {w : Nat → Int32} {x2 : Int32} (hj : j < 80) (hc8 : cc ≤ 8) (h : RD I n q) (h5 : I 1 5 = 0) (hcc : I r 1 = ni cc) (hqq : rsk (I 2) n q = q) (hx : hz (I 2) n q = x2) (hx2 : x2 = 35 ∨ x2 = 64 ∨ x2 = 39)
    (kk : rm2 (mPart (I 2) n cc w e q) (fun z => ∀ I', cPX r I I' n j z.1 e z.2 → P (.inl (some (.int 1)), (am_SH, I', J, Pf), 0, 0)) (fun kd pl => ∀ I', cFF r I I' J J kd pl → pl ≤ 600 → P (.inl (some (.int 0)), (am_SH, I', J, Pf), 0, 0))) :
    am_mth (d + 6) 34 [.ref 3, .int (ni j), .int x2] (am_SH, I, J, Pf) P := by
  have hO := cO_le hr
  have hn := h.2.2.2
  have hlt : q < n := hz_0 hx (by rcases hx2 with rfl | rfl | rfl <;> decide)
  have sh7 : am_SH[r + 7]? = some (.inr (0, 640)) := by rcases hr with rfl | rfl <;> rfl
  have bad : ∀ (I1 : am_I) (kd pl : Nat) (l2 : Option Value), cFF r I I1 J J kd pl → pl ≤ 600 → (∀ I', cFF r I I' J J kd pl → pl ≤ 600 → P (.inl (some (.int 0)), (am_SH, I', J, Pf), 0, 0)) → am_go none (d + 5) 34 (90, [some (.ref 3), some (.int (ni j)), l2, some (.int (-1))], [], (am_SH, I1, J, Pf), 0, 0) P := by
    intro I1 kd pl l2 hF hpl kk
    refine v34_90 hp ⟨r, h31, rul_sh hr, ni_in (by omega) (by omega), ?_⟩
    rw [if_pos rfl]
    refine kk _ ⟨?_, ?_, fun o k e1 e2 e3 e4 => ?_, hF.2.2.2⟩ hpl
    · rw [am_u_nq (by omega)]; exact hF.1
    · rw [am_u_nq (by omega)]; exact hF.2.1
    · rw [am_u_nq (by omega)]; exact hF.2.2.1 o k e1 e2 e3 e4
  unfold mPart at kk
  rw [hx] at kk
  refine am_mth_of rfl rfl (v34_0 hp ?_)
  by_cases c35 : x2 = 35
  · rw [if_pos c35] at kk ⊢
    refine ⟨r, h31, rul_sh hr, ni_in (by omega) (by omega), ?_⟩
    rw [ni_nat (by omega)]
    have hf0 : cBf r I (am_u I (r + 5) j 0) := cBf.rfl'.u (by omega)
    have e2 : (am_u I (r + 5) j 0) 2 = I 2 := am_u_o (by omega)
    have hR1 : RD (am_u I (r + 5) j 0) n q := h.cr (fun k _ => am_u_nq (by omega)) (by omega) (by rw [am_u_nq (by omega)]; exact h.2.1)
    refine sc_class (r := r) (d := d + 2) hp h30 h31 (rul_sh hr) hc8 (by rw [am_u_nq (by omega)]; exact hcc) (by omega) hR1 (by rw [am_u_nq (by omega)]; exact h5) ?_
    rw [e2]
    cases hm : mCl (I 2) n cc q with
    | inl e =>
      rw [hm] at kk
      exact fun I' hF hpl => am_back (v34_20 hp rfl (bad I' _ _ _ (cFF.after hf0.fr cJr.rfl' hF) hpl kk))
    | inr z =>
      rw [hm] at kk
      intro I' hR2 hf2 hlt2 _
      refine am_back (v34_20 hp rfl (v34_90 hp ⟨r, h31, rul_sh hr, ni_in (by omega) (by omega), ?_⟩))
      rw [if_neg (ni_neg1 (by omega)), ni_nat (by omega)]
      refine kk _ ⟨?_, ⟨?_, fun z => ?_, fun z => ?_⟩, fun o k e1 e2 e3 e4 => ?_⟩
      · exact hR2.cr (fun k _ => am_u_nq (by omega)) hR2.2.2.1 (by rw [am_u_nq (by omega)]; exact hR2.2.1)
      · dsimp only; rw [am_u_nq (by omega), hf2 _ _ (by omega), am_u_same, fu_n (by omega), fu_s]
      · dsimp only; rw [am_u_same, fu_s]
      · dsimp only at z; rw [fu_n (by omega), fu_s] at z; exact absurd z (by decide)
      · rw [am_u_nq (by omega), hf2 o k e1, am_u_nq (by omega)]
  · rw [if_neg c35] at kk ⊢
    by_cases c64 : x2 = 64
    · rw [if_pos c64] at kk ⊢
      refine ⟨r, h31, rul_sh hr, ni_in (by omega) (by omega), h30, ?_⟩
      rw [ni_nat (by omega), am_u_nq (by omega), h.2.1, ni_p1]
      have hf0 : cBf r I (am_u (am_u I (r + 5) j 1) 1 3 (ni (q + 1))) := fun o k e1 e2 e3 => by rw [am_u_nq (by omega), am_u_nq (by omega)]
      have e2 : (am_u (am_u I (r + 5) j 1) 1 3 (ni (q + 1))) 2 = I 2 := by rw [am_u_o (by omega), am_u_o (by omega)]
      have hR1 : RD (am_u (am_u I (r + 5) j 1) 1 3 (ni (q + 1))) n (q + 1) := h.cr (fun k hk => by subst hk; rw [am_u_nq (by omega), am_u_nq (by omega)]) (by omega) am_u_same
      refine sc_sort (r := r) (d := d + 2) hp h30 hR1 (by rw [am_u_nq (by omega), am_u_nq (by omega)]; exact h5) ?_
      rw [e2]
      cases hm : mNum (I 2) n 8 (q + 1) with
      | inl e =>
        rw [hm] at kk
        exact fun I' hF hpl => am_back (v34_57 hp rfl (bad I' _ _ _ (cFF.after hf0.fr cJr.rfl' hF) hpl kk))
      | inr z =>
        rw [hm] at kk
        have hlt2 := (mNum_lt hm).2
        intro I' hR2 hf2 _ _
        refine am_back (v34_57 hp rfl (v34_90 hp ⟨r, h31, rul_sh hr, ni_in (by omega) (by omega), ?_⟩))
        rw [if_neg (ni_neg1 (by omega)), ni_nat (by omega)]
        refine kk _ ⟨?_, ⟨?_, fun z => ?_, fun z => ?_⟩, fun o k e1 e2 e3 e4 => ?_⟩
        · exact hR2.cr (fun k _ => am_u_nq (by omega)) hR2.2.2.1 (by rw [am_u_nq (by omega)]; exact hR2.2.1)
        · dsimp only; rw [am_u_nq (by omega), hf2 _ _ (by omega), am_u_nq (by omega), am_u_same, fu_n (by omega), fu_s]
        · dsimp only; rw [am_u_same, fu_s]
        · dsimp only at z; rw [fu_n (by omega), fu_s] at z; exact absurd z (by decide)
        · rw [am_u_nq (by omega), hf2 o k e1, am_u_nq (by omega), am_u_nq (by omega)]
    · rw [if_neg c64] at kk ⊢
      refine ⟨r, h31, rul_sh hr, ni_in (by omega) (by omega), h30, ?_⟩
      rw [ni_nat (by omega), show ni j * 8 = ni (8 * j) from by rw [show (8 : Int32) = ni 8 from rfl, ni_mul, Nat.mul_comm]]
      have hf0 : cBf r I (am_u I (r + 5) j 2) := cBf.rfl'.u (by omega)
      have e2 : (am_u I (r + 5) j 2) 2 = I 2 := am_u_o (by omega)
      have hR1 : RD (am_u I (r + 5) j 2) n q := h.cr (fun k _ => am_u_nq (by omega)) (by omega) (by rw [am_u_nq (by omega)]; exact h.2.1)
      unfold mShort at kk
      refine sc_word (r := r) (d := d + 1) hp hR1 (by rw [am_u_nq (by omega)]; exact h5) sh7 (by omega) (by omega) (by omega) (by omega) (by omega) ?_
      rw [e2]
      cases hm : mWord (I 2) n q with
      | inl e =>
        rw [hm] at kk
        exact fun I' hF hpl => am_back (v34_89 hp rfl (bad I' _ _ _ (cFF.after hf0.fr cJr.rfl' hF) hpl kk))
      | inr z =>
        rw [hm] at kk
        dsimp only [rb] at kk
        refine ⟨fun hl8 hR2 => am_back (v34_89 hp rfl (v34_90 hp ⟨r, h31, rul_sh hr, ni_in (by omega) (by omega), ?_⟩)), fun hl8 I' hF hpl => am_back (v34_89 hp rfl (bad I' _ _ _ (cFF.after hf0.fr cJr.rfl' hF) hpl ?_))⟩
        · rw [if_pos hl8] at kk
          rw [if_neg (ni_neg1 (by omega)), ni_nat (by omega)]
          have e7 : (am_u I (r + 5) j 2) (r + 7) = I (r + 7) := am_u_o (by omega)
          rw [e7]
          have wl : wN (wdW (fu (fu w e 2) (e + 2) (ni z.1.length)) (e + 3) z.1) (e + 2) = z.1.length := by
            unfold wN wdW
            rw [if_neg (by omega), fu_s, ni_nat (by omega)]
          refine kk _ ⟨?_, ⟨?_, fun y => ?_, fun y => ⟨?_, fun i hi => ?_⟩⟩, fun o k e1 e2 e3 e4 => ?_⟩
          · rw [e7] at hR2
            exact hR2.cr (fun k _ => am_u_nq (by omega)) hR2.2.2.1 (by rw [am_u_nq (by omega)]; exact hR2.2.1)
          · dsimp only
            rw [am_u_nq (by omega), am_rw_o (by omega), am_u_nq (by omega), am_u_nq (by omega), am_u_same]
            unfold wdW
            rw [if_neg (by omega), fu_n (by omega), fu_s]
          · exfalso
            refine y ?_
            dsimp only
            unfold wdW
            rw [if_neg (by omega), fu_n (by omega), fu_s]
          · dsimp only
            rw [am_u_same]
            unfold wdW
            rw [if_neg (by omega), fu_s]
          · dsimp only at hi ⊢
            rw [wl] at hi
            rw [am_u_nq (by omega), am_rw_s]
            unfold wrow wdW
            rw [if_pos (by omega), if_pos (by omega), show 8 * j + i - 8 * j = i by omega, show e + 3 + i - (e + 3) = i by omega]
          · rw [am_u_nq (by omega)]
            by_cases o7 : o = r + 7
            · subst o7
              rw [am_rw_s]
              unfold wrow
              rw [if_neg (by omega)]
            · rw [am_rw_o o7, am_u_nq (by omega), am_u_nq (by omega), am_u_nq (by omega)]
        · rw [if_neg (by omega)] at kk
          exact kk
end CG
