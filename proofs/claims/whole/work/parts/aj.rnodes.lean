/-! Nodes of trees, their facts, their worth -/
theorem groW_ok {w : Nat → Int32} {T : TX} {H : Nat → Nat → Nat → Nat} (hG : WG w) : ∀ (r c : Nat) (st : List ND), (∀ x, x ∈ st → okN T.1 H c x) → ∀ y, y ∈ groW w T H r st → okN T.1 H (c + r) y
  | 0, _, _, _, y, hy => by cases (show y ∈ ([] : List ND) from hy)
  | r + 1, _, [], _, y, hy => by cases (show y ∈ ([] : List ND) from hy)
  | r + 1, c, x :: st, h, y, hy => by
    have hx := h x (List.mem_cons_self ..)
    have hy' : y ∈ x :: groW w T H r (kidsN w T H x ++ st) := hy
    rcases List.mem_cons.mp hy' with rfl | z
    · exact hx.mono (by omega)
    · have := groW_ok hG r (c + 1) (kidsN w T H x ++ st) (fun u hu => by
        rcases List.mem_append.mp hu with a | a
        · exact (kidsN_ok hG hx).2 u a
        · exact (h u (List.mem_cons_of_mem _ a)).mono (by omega)) y z
      exact this.mono (by omega)
theorem trW_ok {w : Nat → Int32} {T : TX} (hG : WG w) {s i j : Nat} (h8 : s < 8) (hij : i ≤ j) (hj : j ≤ T.1) {y : ND} (hy : y ∈ trW w T s i j) : okN T.1 (HHx w 3 T) 200 y := by
  unfold trW at hy
  by_cases c : HHx w 3 T s i j = 0
  · rw [if_pos c] at hy; cases hy
  · rw [if_neg c] at hy
    have := groW_ok (T := T) (H := HHx w 3 T) hG 200 0 [(s, i, j, 0)] (fun x hx => by
      rw [List.mem_singleton] at hx
      subst hx
      exact ⟨h8, hij, hj, Nat.pos_of_ne_zero c, Nat.le_refl _⟩) y hy
    exact this.mono (by omega)
/-- a node's six facts -/
noncomputable def fxN (w : Nat → Int32) (T : TX) (n : ND) : Nat → Int32 := six (ni n.1) (ni n.2.1) (ni n.2.2.1) (ni (HHx w 3 T n.1 n.2.1 n.2.2.1)) (wyM w T (pos (HHx w 3 T)) (QQx w 3 T) n.1 n.2.1 n.2.2.1) (ni n.2.2.2)
def ndZ : ND := (0, 0, 0, 0)
noncomputable def aNd (w : Nat → Int32) (T : TX) (s x k : Nat) : Int32 := if x < (trW w T s 0 T.1).length then fxN w T ((trW w T s 0 T.1).getD x ndZ) k else -1
noncomputable def qNd (w : Nat → Int32) (T : TX) (x1 x2 x3 : Int32) : Sum Nat Int32 := cif (inW x1 7 ∧ inW x2 2147483647 ∧ inW x3 5) (.inr (aNd w T x1.toNatClampNeg x2.toNatClampNeg x3.toNatClampNeg)) (.inl 1)
theorem qNd_t {w : Nat → Int32} {T : TX} {s x k : Nat} (h7 : s ≤ 7) (hx : x ≤ 2147483647) (hk : k ≤ 5) : qNd w T (ni s) (ni x) (ni k) = .inr (aNd w T s x k) := by
  unfold qNd
  rw [cif_t ⟨⟨s, rfl, h7⟩, ⟨x, rfl, hx⟩, ⟨k, rfl, hk⟩⟩, ni_nat (by omega), ni_nat (by omega), ni_nat (by omega)]
/-- sums along a tree -/
noncomputable def smW (V : ND → Int32) (L : List ND) : Nat → Int32
  | 0 => 0
  | k + 1 => smW V L k + V (L.getD k ndZ)
theorem getD_at {L : List ND} {k : Nat} (h : k < L.length) : L[k]? = some (L.getD k ndZ) := by
  rw [List.getD_eq_getElem?_getD, List.getElem?_eq_getElem h]
  rfl
theorem getD_mem {L : List ND} {k : Nat} (h : k < L.length) : L.getD k ndZ ∈ L := List.mem_of_getElem? (getD_at h)
section NOD
variable {P : am_O → Prop} {J : am_J} {Pf : am_R} {T : TX} {w : Nat → Int32} {r : Nat}
theorem sr_node (hp : am_PF Pf) (hG : WG w) (hs : sndW w) {I : am_I} (hQ : rQ I w T) {D : Nat} (hD : 260 ≤ D) {x1 x2 x3 : Int32} (kk : rA P J Pf w T I cd1 (qNd w T x1 x2 x3)) : am_mth D 305 [.ref 163, .int x1, .int x2, .int x3] (am_SH, I, J, Pf) P := by
  obtain ⟨D', rfl⟩ : ∃ D', D = D' + 9 := ⟨D - 9, by omega⟩
  have h24 := hQ.2.2.1.2.1
  have bad : ¬ (inW x1 7 ∧ inW x2 2147483647 ∧ inW x3 5) → P (.inl (some (.int 0)), (am_SH, am_u (am_u (am_u I 163 0 0) 163 0 1) 164 1 ((I 164 1) + 1), J, Pf), 0, 0) := fun hb => by
    unfold qNd at kk
    rw [cif_f hb] at kk
    exact kk
  refine am_mth_of rfl rfl (v305_0 hp ?_)
  by_cases c1 : x1 < 0
  · rw [if_pos c1]; exact bad (fun z => inW_lo (by omega) c1 z.1)
  rw [if_neg c1]
  by_cases c2 : (7 : Int32) < x1
  · rw [if_pos c2]; exact bad (fun z => inW_hi (n := 7) (by omega) c2 z.1)
  rw [if_neg c2]
  by_cases c3 : x2 < 0
  · rw [if_pos c3]; exact bad (fun z => inW_lo (by omega) c3 z.2.1)
  rw [if_neg c3]
  by_cases c4 : x3 < 0
  · rw [if_pos c4]; exact bad (fun z => inW_lo (by omega) c4 z.2.2)
  rw [if_neg c4]
  by_cases c5 : (5 : Int32) < x3
  · rw [if_pos c5]; exact bad (fun z => inW_hi (n := 5) (by omega) c5 z.2.2)
  rw [if_neg c5]
  clear bad
  obtain ⟨s, hs1, hs7⟩ := inW_of (n := 7) (by omega) c1 c2
  obtain ⟨k, hk1, hk5⟩ := inW_of (n := 5) (by omega) c4 c5
  obtain ⟨x, hx1, hx5⟩ := inW_of (n := 2147483647) (by omega) c3 (fun z => by
    rw [Int32.lt_iff_toInt_lt, ni_int (by omega)] at z
    have := Int32.toInt_lt x2
    omega)
  subst hs1 hk1 hx1
  rw [qNd_t hs7 hx5 hk5] at kk
  rw [hQ.2.2.1.1, show (0 : Int32) = ni 0 from rfl]
  refine sr_growsof hp hG hs hQ.z am_u_same (by omega) (show s < 8 by omega) (Nat.zero_le _) (Nat.le_refl _) (fun I' a1 a2 a3 a4 a5 => am_back (v305_56 hp ?_))
  have a2' : rQf I I' := fun o k e1 e2 e3 e4 => by rw [a2 o k e1 e2 e3 e4, am_u_nq (by omega)]
  have hlen := trW_len (w := w) (T := T) (s := s) (i := 0) (j := T.1)
  have hkk := fun I2 (q1 : rQ I2 w T) (q2 : rQf I I2) (q3 : I2 163 0 = 0) => kk I2 q1 q2 q3
  unfold aNd at hkk
  rw [a5.1]
  by_cases c6 : x < (trW w T s 0 T.1).length
  · have nx : (ni x).toNatClampNeg = x := ni_nat (by omega)
    obtain ⟨f1, f2, f3, f4⟩ := a5.2 x _ (getD_at c6)
    obtain ⟨o1, o2, o3, o4, o5⟩ := trW_ok hG (show s < 8 by omega) (Nat.zero_le _) (Nat.le_refl _) (getD_mem c6)
    rw [if_pos ((ni_lt (by omega) (by omega)).mpr c6), nx, f1, f2, f3, f4]
    rw [if_pos c6] at hkk
    generalize (trW w T s 0 T.1).getD x ndZ = n at *
    have bx : am_in (ni x) 200 = true := ni_in (by omega) (by omega)
    refine ⟨bx, bx, bx, ?_⟩
    have hh := (a1.kn a4).h h24 o1 o2 o3
    have hx := ix0 o1 (show n.2.1 < 25 by omega) (show n.2.2.1 < 25 by omega)
    have base := fun (v : Int32) (e : fxN w T n k = v) => e ▸ hkk I' a1 a2' a3
    have k6 : k = 0 ∨ k = 1 ∨ k = 2 ∨ k = 3 ∨ k = 4 ∨ k = 5 := by omega
    rcases k6 with rfl | rfl | rfl | rfl | rfl | rfl
    · rw [if_neg (by decide), if_pos (by decide)]; exact base _ rfl
    · rw [if_neg (by decide), if_neg (by decide), if_pos (by decide)]; exact base _ rfl
    · rw [if_neg (by decide), if_neg (by decide), if_neg (by decide)]; exact base _ rfl
    · rw [if_pos (by decide), if_pos (by decide), hx.1, hx.2.2, hh.1]
      exact ⟨hx.2.1, base _ rfl⟩
    · rw [if_pos (by decide), if_neg (by decide), if_pos (by decide)]
      obtain ⟨b1, b2, b3, b4⟩ := a1.kn a4
      refine sr_ways (d0 := D' + 2) hp hG b1 b2 b3 hQ.2.2.2.1 b4 o1 o2 o3 (fun I2 c1 => am_back (v305_155 hp ?_))
      rw [cif_t o4]
      exact hkk I2 (a1.of (fun o y e => c1 o y (by omega) (by omega))) (a2'.trans (fun o y e1 e2 e3 e4 => c1 o y (by omega) (by omega))) ((c1 _ _ (by omega) (by omega)).trans a3)
    · rw [if_pos (by decide), if_neg (by decide), if_neg (by decide)]
      exact ⟨bx, base _ rfl⟩
  · rw [if_neg (fun z => c6 ((ni_lt (by omega) (by omega)).mp z))]
    rw [if_neg c6] at hkk
    exact hkk I' a1 a2' a3
/-- a law, as the reference holds it -/
def rLh (I : am_I) (L : LW) : Prop := (L.1 = 0 ∨ (lwWf L 1 ∧ L.1 ≤ 150 ∧ lwSm L)) ∧ I 163 29 = ni L.1 ∧ ∀ i, i < L.1 → I 174 i = ni (L.2 i).1 ∧ I 175 i = ni (L.2 i).2
def vlN (L : LW) (f : Nat → Int32) : Int32 := if L.1 = 0 then 1 else lwVal L f
noncomputable def aWo (w : Nat → Int32) (T : TX) (L : LW) (s : Nat) : Int32 := smW (fun n => vlN L (fxN w T n)) (trW w T s 0 T.1) (trW w T s 0 T.1).length
theorem sr_wo (hp : am_PF Pf) (hG : WG w) (hs : sndW w) {I : am_I} (hQ : rQ I w T) {L : LW} (hL : rLh I L) {D : Nat} (hD : 260 ≤ D) {x1 : Int32} (kk : rA P J Pf w T I cd1 (qSt 7 (aWo w T L) x1)) : am_mth D 306 [.ref 163, .int x1] (am_SH, I, J, Pf) P := by
  obtain ⟨D', rfl⟩ : ∃ D', D = D' + 9 := ⟨D - 9, by omega⟩
  have h24 := hQ.2.2.1.2.1
  refine am_mth_of rfl rfl (v306_0 hp ?_)
  by_cases c1 : x1 < 0
  · rw [if_pos c1]
    rw [qSt_f (inW_lo (by omega) c1)] at kk
    exact kk
  rw [if_neg c1]
  by_cases c2 : (7 : Int32) < x1
  · rw [if_pos c2]
    rw [qSt_f (inW_hi (n := 7) (by omega) c2)] at kk
    exact kk
  rw [if_neg c2]
  obtain ⟨s, hs1, hs7⟩ := inW_of (n := 7) (by omega) c1 c2
  subst hs1
  rw [qSt_t hs7 (by omega)] at kk
  rw [hQ.2.2.1.1, show (0 : Int32) = ni 0 from rfl]
  refine sr_growsof hp hG hs hQ.z am_u_same (by omega) (show s < 8 by omega) (Nat.zero_le _) (Nat.le_refl _) (fun I' a1 a2 a3 a4 a5 => am_back (v306_35 hp rfl ?_))
  have a2' : rQf I I' := fun o k e1 e2 e3 e4 => by rw [a2 o k e1 e2 e3 e4, am_u_nq (by omega)]
  have hlen := trW_len (w := w) (T := T) (s := s) (i := 0) (j := T.1)
  have LP : ∀ (m k : Nat) (I1 : am_I), (trW w T s 0 T.1).length - k = m → k ≤ (trW w T s 0 T.1).length → rQ I1 w T → rQf I I1 → I1 163 0 = 0 → ¬ I1 163 46 = 0 → rLs2 I1 (trW w T s 0 T.1) → am_go none (D' + 8) 306 (39, [some (.ref 163), some (.int (ni s)), some (.int (smW (fun n => vlN L (fxN w T n)) (trW w T s 0 T.1) k)), some (.int (ni k))], [], (am_SH, I1, J, Pf), 0, 0) P := by
    intro m
    induction m with
    | zero =>
      intro k I1 hm hk b1 b2 b3 b4 b5
      have : k = (trW w T s 0 T.1).length := by omega
      subst this
      refine v306_39 hp ?_
      rw [b5.1, if_pos ((ni_le (by omega) (by omega)).mpr (Nat.le_refl _))]
      exact kk I1 b1 b2 b3
    | succ m ih =>
      intro k I1 hm hk b1 b2 b3 b4 b5
      have c6 : k < (trW w T s 0 T.1).length := by omega
      have nx : (ni k).toNatClampNeg = k := ni_nat (by omega)
      have bx : am_in (ni k) 200 = true := ni_in (by omega) (by omega)
      obtain ⟨f1, f2, f3, f4⟩ := b5.2 k _ (getD_at c6)
      obtain ⟨o1, o2, o3, o4, o5⟩ := trW_ok hG (show s < 8 by omega) (Nat.zero_le _) (Nat.le_refl _) (getD_mem c6)
      have hh := (b1.kn b4).h h24 o1 o2 o3
      have hx := ix0 o1 (show ((trW w T s 0 T.1).getD k ndZ).2.1 < 25 by omega) (show ((trW w T s 0 T.1).getD k ndZ).2.2.1 < 25 by omega)
      refine v306_39 hp ?_
      rw [b5.1, if_neg (fun z => absurd ((ni_le (by omega) (by omega)).mp z) (by omega)), nx, f1, f2, f3, hx.1, hx.2.2, hh.1]
      refine ⟨bx, bx, bx, bx, bx, bx, hx.2.1, bx, bx, bx, ?_⟩
      obtain ⟨d1, d2, d3, d4⟩ := b1.kn b4
      refine sr_ways (d0 := D' + 2) hp hG d1 d2 d3 hQ.2.2.2.1 d4 o1 o2 o3 (fun I2 e1 => am_back (v306_116 hp ?_))
      rw [cif_t o4, nx, e1 _ _ (by omega) (by omega), f4]
      refine ⟨bx, ?_⟩
      have hf2 : ∀ o y, o ≠ 192 → o ≠ 193 → I2 o y = I1 o y := e1
      have g2 : rQf I I2 := b2.trans (fun o y q1 q2 q3 q4 => e1 o y (by omega) (by omega))
      refine sr_worth (d := D' + 4) hp hL.1 (by rw [g2 _ _ (by omega) (by omega) (by omega) (by omega)]; exact hL.2.1) (fun i hi => by
        rw [g2 _ _ (by omega) (by omega) (by omega) (by omega), g2 _ _ (by omega) (by omega) (by omega) (by omega)]; exact hL.2.2 i hi) (fun I3 h1 => am_back (v306_125 hp rfl ?_))
      rw [ni_p1 k]
      have q0 : ∀ o y, o ≠ 192 → o ≠ 193 → o ≠ 176 → o ≠ 177 → I3 o y = I1 o y := fun o y q1 q2 q3 q4 => (h1 o y q3 q4).trans (e1 o y q1 q2)
      refine ih (k + 1) I3 (by omega) (by omega) (b1.of (fun o y e => q0 o y (by omega) (by omega) (by omega) (by omega))) (b2.trans (fun o y q1 q2 q3 q4 => q0 o y (by omega) (by omega) (by omega) (by omega))) (by rw [q0 _ _ (by omega) (by omega) (by omega) (by omega)]; exact b3) (by rw [q0 _ _ (by omega) (by omega) (by omega) (by omega)]; exact b4) ⟨by rw [q0 _ _ (by omega) (by omega) (by omega) (by omega)]; exact b5.1, fun x n hx => ?_⟩
      obtain ⟨z1, z2, z3, z4⟩ := b5.2 x n hx
      exact ⟨by rw [q0 _ _ (by omega) (by omega) (by omega) (by omega)]; exact z1, by rw [q0 _ _ (by omega) (by omega) (by omega) (by omega)]; exact z2, by rw [q0 _ _ (by omega) (by omega) (by omega) (by omega)]; exact z3, by rw [q0 _ _ (by omega) (by omega) (by omega) (by omega)]; exact z4⟩
  exact LP _ 0 I' rfl (Nat.zero_le _) a1 a2' a3 a4 a5
end NOD
