/-! The reference's answers of pieces -/
theorem bts_uq {u v : Int32} {Q : Nat → Prop} (h : bts u Q) (g : bts v Q) : u = v := bI_ext (fun k hk => by
  have := (h k hk).trans (g k hk).symm
  cases a : bI u k <;> cases b : bI v k <;> simp_all)
noncomputable def bsV (Q : Nat → Prop) : Int32 := Classical.epsilon (fun v => bts v Q)
theorem bsV_eq {v : Int32} {Q : Nat → Prop} (h : bts v Q) : bsV Q = v := bts_uq (Classical.epsilon_spec (p := fun v => bts v Q) ⟨v, h⟩) h
/-- the reference has refused -/
def rTh (I : am_I) (c : Int32) (E : Nat) : am_I := am_u (am_u (am_u I 163 0 0) 163 0 c) 164 E (I 164 E + 1)
/-- the reference answers, or refuses -/
def rA (P : am_O → Prop) (J : am_J) (Pf : am_R) (w : Nat → Int32) (T : TX) (I : am_I) (cd : Nat → Int32) (v : Sum Nat Int32) : Prop := match v with
  | .inl E => P (.inl (some (.int 0)), (am_SH, rTh I (cd E) E, J, Pf), 0, 0)
  | .inr a => ∀ I', rQ I' w T → rQf I I' → I' 163 0 = 0 → P (.inl (some (.int a)), (am_SH, I', J, Pf), 0, 0)
/-- the class answers, or refuses -/
def cA (P : am_O → Prop) (Pf : am_R) (r : Nat) (w : Nat → Int32) (T : TX) (I : am_I) (J : am_J) (v : Sum Nat Int32) : Prop := match v with
  | .inl E => P (.inr E, (am_SH, am_u I 0 (18 + E) (I 0 (18 + E) + 1), J, Pf), 1, 6)
  | .inr a => ∀ I' J', cQ r I' J' w T → cQf I I' → cQj J J' → P (.inl (some (.int a)), (am_SH, I', J', Pf), 0, 0)
def cd1 (_ : Nat) : Int32 := 1
def cd2 (E : Nat) : Int32 := if E = 0 then 1 else 2
/-- what is answered of a piece -/
noncomputable def qPc (n : Nat) (f : Nat → Nat → Nat → Int32) (x1 x2 x3 : Int32) : Sum Nat Int32 := cif (pcA n x1 x2 x3) (.inr (f x1.toNatClampNeg x2.toNatClampNeg x3.toNatClampNeg)) (.inl 1)
theorem qPc_t {n s i j : Nat} {f : Nat → Nat → Nat → Int32} (h8 : s < 8) (hij : i ≤ j) (hj : j ≤ n) (hn : n ≤ 24) : qPc n f (ni s) (ni i) (ni j) = .inr (f s i j) := by
  unfold qPc
  rw [cif_t ⟨s, i, j, rfl, rfl, rfl, h8, hij, hj⟩, ni_nat (by omega), ni_nat (by omega), ni_nat (by omega)]
theorem qPc_f {n : Nat} {f : Nat → Nat → Nat → Int32} {x1 x2 x3 : Int32} (h : ¬ pcA n x1 x2 x3) : qPc n f x1 x2 x3 = .inl 1 := cif_f h
noncomputable def aIs (w : Nat → Int32) (T : TX) (s i j : Nat) : Int32 := if HHx w 3 T s i j = 0 then 0 else 1
noncomputable def aHt (w : Nat → Int32) (T : TX) (s i j : Nat) : Int32 := if HHx w 3 T s i j = 0 then -1 else ni (HHx w 3 T s i j)
noncomputable def aWy (w : Nat → Int32) (T : TX) (s i j : Nat) : Int32 := cif (0 < HHx w 3 T s i j) (wyM w T (pos (HHx w 3 T)) (QQx w 3 T) s i j) 0
noncomputable def trW (w : Nat → Int32) (T : TX) (s i j : Nat) : List ND := if HHx w 3 T s i j = 0 then [] else treeW w T (HHx w 3 T) s i j
noncomputable def aNs (w : Nat → Int32) (T : TX) (s i j : Nat) : Int32 := ni (trW w T s i j).length
section ANR
variable {P : am_O → Prop} {J : am_J} {Pf : am_R} {T : TX} {w : Nat → Int32}
theorem rTh_eq {I : am_I} {c : Int32} {E : Nat} : am_u (am_u (am_u I 163 0 0) 163 0 c) 164 E ((am_u I 163 0 0) 164 E + 1) = rTh I c E := by
  unfold rTh
  have e : (am_u I 163 0 0) 164 E = I 164 E := am_u_nq (by omega)
  rw [e]
theorem rQ.z {I : am_I} (h : rQ I w T) {x : Int32} : rQ (am_u I 163 0 x) w T := h.of (fun o y e => am_u_nq (by omega))
theorem sr_isp (hp : am_PF Pf) {I : am_I} {n d : Nat} (hn : n ≤ 24) (h0 : I 163 0 = 0) (h180 : I 180 0 = ni n) {x1 x2 x3 : Int32} (kk1 : ∀ s i j, x1 = ni s → x2 = ni i → x3 = ni j → s < 8 → i ≤ j → j ≤ n → P (.inl (some (.int 1)), (am_SH, I, J, Pf), 0, 0)) (kk0 : ¬ pcA n x1 x2 x3 → P (.inl (some (.int 0)), (am_SH, am_u (am_u I 163 0 1) 164 1 (I 164 1 + 1), J, Pf), 0, 0)) : am_mth (d + 2) 289 [.ref 163, .int x1, .int x2, .int x3] (am_SH, I, J, Pf) P := by
  refine am_mth_of rfl rfl (v289_0 hp ?_)
  rw [if_pos h0, h180]
  by_cases c1 : x1 < 0
  · rw [if_pos c1]
    exact kk0 (fun ⟨s, i, j, h1, h2, h3, h4, h5, h6⟩ => inW_lo (n := 7) (by omega) c1 ⟨s, h1, by omega⟩)
  · rw [if_neg c1]
    by_cases c2 : (7 : Int32) < x1
    · rw [if_pos c2]
      exact kk0 (fun ⟨s, i, j, h1, h2, h3, h4, h5, h6⟩ => inW_hi (n := 7) (by omega) c2 ⟨s, h1, by omega⟩)
    · rw [if_neg c2]
      obtain ⟨s, hs, hs8⟩ := inW_of (n := 7) (by omega) c1 c2
      by_cases c3 : x2 < 0
      · rw [if_pos c3]
        exact kk0 (fun ⟨s, i, j, h1, h2, h3, h4, h5, h6⟩ => inW_lo (n := n) (by omega) c3 ⟨i, h2, by omega⟩)
      · rw [if_neg c3]
        by_cases c4 : ni n < x2
        · rw [if_pos c4]
          exact kk0 (fun ⟨s, i, j, h1, h2, h3, h4, h5, h6⟩ => inW_hi (n := n) (by omega) c4 ⟨i, h2, by omega⟩)
        · rw [if_neg c4]
          obtain ⟨i, hi, hin⟩ := inW_of (n := n) (by omega) c3 c4
          subst hi
          by_cases c5 : x3 < ni i
          · rw [if_pos c5]
            exact kk0 (fun ⟨s, i', j, h1, h2, h3, h4, h5, h6⟩ => by
              rw [h3] at c5
              have := (ni_lt (by omega) (by omega)).mp c5
              have := (ni_inj (by omega) (by omega)).mp h2
              omega)
          · rw [if_neg c5]
            by_cases c6 : ni n < x3
            · rw [if_pos c6]
              exact kk0 (fun ⟨s, i, j, h1, h2, h3, h4, h5, h6⟩ => inW_hi (n := n) (by omega) c6 ⟨j, h3, by omega⟩)
            · rw [if_neg c6, if_pos h0]
              have c7 : ¬ x3 < 0 := by
                rw [Int32.lt_iff_toInt_lt] at c5 ⊢
                rw [ni_int (by omega)] at c5
                have : (0 : Int32).toInt = 0 := by decide
                omega
              obtain ⟨j, hj, hjn⟩ := inW_of (n := n) (by omega) c7 c6
              refine kk1 s i j hs rfl hj (by omega) ?_ hjn
              rw [hj] at c5
              have : ¬ j < i := fun z => c5 ((ni_lt (by omega) (by omega)).mpr z)
              omega
/-- guard, then knowing -/
theorem sr_gk (hp : am_PF Pf) (hG : WG w) (hs : sndW w) {I : am_I} (hQ : rQ I w T) {D : Nat} (hD : 90 ≤ D) {Q : am_O → Prop} (kk : ∀ I', rQ I' w T → ¬ I' 163 46 = 0 → rQf I I' → I' 163 0 = 0 → Q (.inl none, (am_SH, I', J, Pf), 0, 0)) : am_mth D 271 [.ref 163] (am_SH, am_u I 163 0 0, J, Pf) Q := by
  refine sr_knows hp hG hs hQ.z hD (fun I' a1 a2 a3 => kk I' a1 a2 (fun o k e1 e2 e3 e4 => ?_) ?_)
  · rw [a3 o k (by omega) (by omega), am_u_nq (by omega)]
  · rw [a3 _ _ (by omega) (by omega), am_u_same]
theorem sr_is (hp : am_PF Pf) (hG : WG w) (hs : sndW w) {I : am_I} (hQ : rQ I w T) {D : Nat} (hD : 100 ≤ D) {x1 x2 x3 : Int32} (kk : rA P J Pf w T I cd1 (qPc T.1 (aIs w T) x1 x2 x3)) : am_mth D 290 [.ref 163, .int x1, .int x2, .int x3] (am_SH, I, J, Pf) P := by
  obtain ⟨D', rfl⟩ : ∃ D', D = D' + 4 := ⟨D - 4, by omega⟩
  have h24 := hQ.2.2.1.2.1
  refine am_mth_of rfl rfl (v290_0 hp ?_)
  refine sr_isp (d := D' + 1) hp h24 am_u_same ((am_u_nq (by omega)).trans hQ.2.2.1.1) (fun s i j h1 h2 h3 h8 hij hj => am_back (v290_12 hp ?_)) (fun hb => am_back (v290_12 hp ?_))
  · rw [if_neg (by decide)]
    subst h1 h2 h3
    rw [qPc_t h8 hij hj h24] at kk
    refine sr_gk hp hG hs hQ (by omega) (fun I' a1 a2 a3 a4 => am_back (v290_21 hp ?_))
    have hh := (a1.kn a2).h h24 h8 hij hj
    have hx := ix0 h8 (show i < 25 by omega) (show j < 25 by omega)
    rw [hx.1, hx.2.2, hh.1]
    refine ⟨hx.2.1, ?_⟩
    have := kk I' a1 a3 a4
    unfold aIs at this
    by_cases c : HHx w 3 T s i j = 0
    · rw [if_pos c] at this
      rw [if_pos ((lle 0 (by omega) (by omega)).mpr (by omega))]; exact this
    · rw [if_neg c] at this
      rw [if_neg (fun z => absurd ((lle 0 (by omega) (by omega)).mp z) (by omega))]; exact this
  · rw [if_pos rfl, rTh_eq]
    rw [qPc_f hb] at kk
    exact kk
theorem sr_ht (hp : am_PF Pf) (hG : WG w) (hs : sndW w) {I : am_I} (hQ : rQ I w T) {D : Nat} (hD : 100 ≤ D) {x1 x2 x3 : Int32} (kk : rA P J Pf w T I cd1 (qPc T.1 (aHt w T) x1 x2 x3)) : am_mth D 295 [.ref 163, .int x1, .int x2, .int x3] (am_SH, I, J, Pf) P := by
  obtain ⟨D', rfl⟩ : ∃ D', D = D' + 4 := ⟨D - 4, by omega⟩
  have h24 := hQ.2.2.1.2.1
  refine am_mth_of rfl rfl (v295_0 hp ?_)
  refine sr_isp (d := D' + 1) hp h24 am_u_same ((am_u_nq (by omega)).trans hQ.2.2.1.1) (fun s i j h1 h2 h3 h8 hij hj => am_back (v295_12 hp ?_)) (fun hb => am_back (v295_12 hp ?_))
  · rw [if_neg (by decide)]
    subst h1 h2 h3
    rw [qPc_t h8 hij hj h24] at kk
    refine sr_gk hp hG hs hQ (by omega) (fun I' a1 a2 a3 a4 => am_back (v295_21 hp ?_))
    have hh := (a1.kn a2).h h24 h8 hij hj
    have hx := ix0 h8 (show i < 25 by omega) (show j < 25 by omega)
    rw [hx.1, hx.2.2, hh.1]
    refine ⟨hx.2.1, ?_⟩
    have := kk I' a1 a3 a4
    unfold aHt at this
    by_cases c : HHx w 3 T s i j = 0
    · rw [if_pos c] at this
      rw [if_pos ((lle 0 (by omega) (by omega)).mpr (by omega))]; exact this
    · rw [if_neg c] at this
      rw [if_neg (fun z => absurd ((lle 0 (by omega) (by omega)).mp z) (by omega))]; exact ⟨hx.2.1, this⟩
  · rw [if_pos rfl, rTh_eq]
    rw [qPc_f hb] at kk
    exact kk
theorem sr_wy (hp : am_PF Pf) (hG : WG w) (hs : sndW w) {I : am_I} (hQ : rQ I w T) {D : Nat} (hD : 100 ≤ D) {x1 x2 x3 : Int32} (kk : rA P J Pf w T I cd1 (qPc T.1 (aWy w T) x1 x2 x3)) : am_mth D 294 [.ref 163, .int x1, .int x2, .int x3] (am_SH, I, J, Pf) P := by
  obtain ⟨D', rfl⟩ : ∃ D', D = D' + 9 := ⟨D - 9, by omega⟩
  have h24 := hQ.2.2.1.2.1
  refine am_mth_of rfl rfl (v294_0 hp ?_)
  refine sr_isp (d := D' + 6) hp h24 am_u_same ((am_u_nq (by omega)).trans hQ.2.2.1.1) (fun s i j h1 h2 h3 h8 hij hj => am_back (v294_12 hp ?_)) (fun hb => am_back (v294_12 hp ?_))
  · rw [if_neg (by decide)]
    subst h1 h2 h3
    rw [qPc_t h8 hij hj h24] at kk
    refine sr_gk hp hG hs hQ (by omega) (fun I' a1 a2 a3 a4 => am_back (v294_21 hp ?_))
    obtain ⟨b1, b2, b3, b4⟩ := a1.kn a2
    refine sr_ways (d0 := D' + 2) hp hG b1 b2 b3 hQ.2.2.2.1 b4 h8 hij hj (fun I2 c1 => am_back (v294_28 hp ?_))
    exact kk I2 (a1.of (fun o y e => c1 o y (by omega) (by omega))) (a3.trans (fun o y e1 e2 e3 e4 => c1 o y (by omega) (by omega))) ((c1 _ _ (by omega) (by omega)).trans a4)
  · rw [if_pos rfl, rTh_eq]
    rw [qPc_f hb] at kk
    exact kk
theorem trW_len {s i j : Nat} : (trW w T s i j).length ≤ 200 := by
  unfold trW
  split
  · exact Nat.zero_le _
  · exact groW_len _ _
theorem sr_growsof (hp : am_PF Pf) (hG : WG w) (hs : sndW w) {I : am_I} (hQ : rQ I w T) (h0 : I 163 0 = 0) {D : Nat} (hD : 250 ≤ D) {s i j : Nat} (h8 : s < 8) (hij : i ≤ j) (hj : j ≤ T.1) (kk : ∀ I', rQ I' w T → rQf I I' → I' 163 0 = 0 → ¬ I' 163 46 = 0 → rLs2 I' (trW w T s i j) → P (.inl none, (am_SH, I', J, Pf), 0, 0)) : am_mth D 303 [.ref 163, .int (ni s), .int (ni i), .int (ni j)] (am_SH, I, J, Pf) P := by
  obtain ⟨D', rfl⟩ : ∃ D', D = D' + 3 := ⟨D - 3, by omega⟩
  have hTo := hQ.2.2.2.1
  have h24 := hTo.1
  refine am_mth_of rfl rfl (v303_0 hp ?_)
  refine sr_knows hp hG hs hQ (by omega) (fun I1 a1 a2 a3 => am_back (v303_4 hp ?_))
  have hh := (a1.kn a2).h h24 h8 hij hj
  have hx := ix0 h8 (show i < 25 by omega) (show j < 25 by omega)
  rw [hx.1, hx.2.2, hh.1]
  refine ⟨hx.2.1, ?_⟩
  have q1 : rQ (am_u I1 163 60 0) w T := a1.of (fun o y e => am_u_nq (by omega))
  have q2 : rQf I (am_u I1 163 60 0) := fun o k e1 e2 e3 e4 => by rw [am_u_nq (by omega), a3 o k (by omega) (by omega)]
  have q3 : (am_u I1 163 60 0) 163 0 = 0 := by rw [am_u_nq (by omega), a3 _ _ (by omega) (by omega)]; exact h0
  have q4 : ¬ (am_u I1 163 60 0) 163 46 = 0 := by rw [am_u_nq (by omega)]; exact a2
  have q5 : rLs2 (am_u I1 163 60 0) [] := ⟨am_u_same, fun x n hx => by cases hx⟩
  by_cases c : HHx w 3 T s i j = 0
  · rw [if_pos ((lle 0 (by omega) (by omega)).mpr (by omega))]
    refine kk _ q1 q2 q3 q4 ?_
    unfold trW
    rw [if_pos c]
    exact q5
  · rw [if_neg (fun z => absurd ((lle 0 (by omega) (by omega)).mp z) (by omega)), show (0 : Int32) = ni 0 from rfl]
    refine sr_grows hp hG hTo 200 _ (D' + 2) _ [] (s, i, j, 0) (by simp) (by simp) ⟨h8, hij, hj, Nat.pos_of_ne_zero c, Nat.zero_le _⟩ (q1.kn q4) q5 (by omega) (fun I2 M b1 b2 b3 b4 b5 => am_back (v303_28 hp ?_))
    have e1 : trW w T s i j = M := by
      unfold trW
      rw [if_neg c]
      have := b4 []
      have e2 : ∀ r, groW w T (HHx w 3 T) r [] = [] := fun r => by cases r <;> rfl
      rw [e2, List.append_nil] at this
      exact this
    rw [e1] at kk
    have b5' : rGw 0 (am_u I1 163 60 0) I2 := b5
    exact kk I2 (q1.of (fun o y e => b5' o y (by omega) (by omega) (by omega))) (q2.trans (fun o y e1 e2 e3 e4 => b5' o y (by omega) (by omega) (by omega))) ((b5' _ _ (by omega) (by omega) (by omega)).trans q3) (by rw [b5' _ _ (by omega) (by omega) (by omega)]; exact q4) b1
theorem sr_nodes (hp : am_PF Pf) (hG : WG w) (hs : sndW w) {I : am_I} (hQ : rQ I w T) {D : Nat} (hD : 260 ≤ D) {x1 x2 x3 : Int32} (kk : rA P J Pf w T I cd1 (qPc T.1 (aNs w T) x1 x2 x3)) : am_mth D 304 [.ref 163, .int x1, .int x2, .int x3] (am_SH, I, J, Pf) P := by
  obtain ⟨D', rfl⟩ : ∃ D', D = D' + 4 := ⟨D - 4, by omega⟩
  have h24 := hQ.2.2.1.2.1
  refine am_mth_of rfl rfl (v304_0 hp ?_)
  refine sr_isp (d := D' + 1) hp h24 am_u_same ((am_u_nq (by omega)).trans hQ.2.2.1.1) (fun s i j h1 h2 h3 h8 hij hj => am_back (v304_12 hp ?_)) (fun hb => am_back (v304_12 hp ?_))
  · rw [if_neg (by decide)]
    subst h1 h2 h3
    rw [qPc_t h8 hij hj h24] at kk
    refine sr_growsof hp hG hs hQ.z am_u_same (by omega) h8 hij hj (fun I' a1 a2 a3 a4 a5 => am_back (v304_24 hp ?_))
    rw [a5.1]
    exact kk I' a1 (fun o k e1 e2 e3 e4 => by rw [a2 o k e1 e2 e3 e4, am_u_nq (by omega)]) a3
  · rw [if_pos rfl, rTh_eq]
    rw [qPc_f hb] at kk
    exact kk
end ANR
