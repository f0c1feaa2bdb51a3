/-! The reference's knowing, its pieces -/
/-- small ints -/
theorem ni_ofle {x : Int32} {n : Nat} (hn : n < 2147483648) (h0 : 0 ≤ x) (h1 : x ≤ ni n) : ∃ a, x = ni a ∧ a ≤ n := by
  rw [Int32.le_iff_toInt_le] at h0 h1
  rw [ni_int hn] at h1
  have e0 : (0 : Int32).toInt = 0 := by decide
  rw [e0] at h0
  refine ⟨x.toInt.toNat, ?_, by omega⟩
  rw [← Int32.toInt_inj, ni_int (by omega)]
  omega
theorem ni_ge0 {a : Nat} (h : a < 2147483648) : ¬ (ni a < 0) := fun z => absurd ((llt 0 h (by omega)).mp z) (by omega)
/-- an argument from a to n -/
def inW (x : Int32) (n : Nat) : Prop := ∃ a, x = ni a ∧ a ≤ n
theorem inW_of {x : Int32} {n : Nat} (hn : n < 2147483648) (h0 : ¬ x < 0) (h1 : ¬ ni n < x) : inW x n := ni_ofle hn (by rw [Int32.le_iff_toInt_le]; rw [Int32.lt_iff_toInt_lt] at h0; omega) (by rw [Int32.le_iff_toInt_le]; rw [Int32.lt_iff_toInt_lt] at h1; omega)
theorem inW_lo {x : Int32} {n : Nat} (hn : n < 2147483648) (h0 : x < 0) : ¬ inW x n := fun ⟨a, h1, h2⟩ => by
  rw [h1] at h0
  exact ni_ge0 (by omega) h0
theorem inW_hi {x : Int32} {n : Nat} (hn : n < 2147483648) (h0 : ni n < x) : ¬ inW x n := fun ⟨a, h1, h2⟩ => by
  rw [h1] at h0
  have := (ni_lt hn (by omega)).mp h0
  omega
/-- the reference's state, as far as questions of the text go -/
def rQ (I : am_I) (w : Nat → Int32) (T : TX) : Prop := I 167 = w ∧ nmR I 171 (lyW w 64) ∧ rTx 180 I T ∧ txOK T ∧ rCa I w ∧ (I 163 46 = 0 ∨ (rTd 0 I T ∧ rSd 0 I w 3 T))
/-- what a question may change -/
def rQf (I I' : am_I) : Prop := ∀ o k, ¬ (176 ≤ o ∧ o ≤ 177) → o ≠ 181 → ¬ (183 ≤ o ∧ o ≤ 200) → ¬ (o = 163 ∧ (k = 0 ∨ (17 ≤ k ∧ k ≤ 19) ∨ k = 46 ∨ k = 48 ∨ k = 60 ∨ k = 62)) → I' o k = I o k
theorem rQf.trans {I I' I'' : am_I} (h : rQf I I') (g : rQf I' I'') : rQf I I'' := fun o k e1 e2 e3 e4 => (g o k e1 e2 e3 e4).trans (h o k e1 e2 e3 e4)
theorem rQf.rfl' {I : am_I} : rQf I I := fun _ _ _ _ _ _ => rfl
theorem rQ.of {I I' : am_I} {w : Nat → Int32} {T : TX} (h : rQ I w T) (f : ∀ o y, (o = 167 ∨ o = 171 ∨ o = 180 ∨ (183 ≤ o ∧ o ≤ 187) ∨ (o = 163 ∧ (y = 46 ∨ y = 48))) → I' o y = I o y) : rQ I' w T := by
  obtain ⟨h1, h2, h3, h4, h5, h6⟩ := h
  refine ⟨by rw [← h1]; funext y; exact f _ _ (by omega), fun s h8 => by rw [f _ _ (by omega)]; exact h2 s h8, ⟨by rw [f _ _ (by omega)]; exact h3.1, h3.2.1, fun i hi => by rw [f _ _ (by omega)]; exact h3.2.2 i hi⟩, h4, h5.of (f _ _ (by omega)) (fun k => f _ _ (by omega)), ?_⟩
  rw [f 163 46 (by omega)]
  rcases h6 with z | ⟨g1, g2⟩
  · exact Or.inl z
  · have hk : rKn I w 3 T := ⟨h1, g1, h3.1, g2⟩
    obtain ⟨-, b2, -, b3⟩ := hk.of (fun o y ho => f o y (by omega))
    exact Or.inr ⟨b2, b3⟩
theorem rQ.kn {I : am_I} {w : Nat → Int32} {T : TX} (h : rQ I w T) (h46 : ¬ I 163 46 = 0) : rKn I w 3 T := by
  obtain ⟨h1, h2, h3, h4, h5, h6⟩ := h
  rcases h6 with z | ⟨g1, g2⟩
  · exact absurd z h46
  · exact ⟨h1, g1, h3.1, g2⟩
section KNW
variable {P : am_O → Prop} {J : am_J} {Pf : am_R} {T : TX} {w : Nat → Int32}
theorem sr_knows (hp : am_PF Pf) (hG : WG w) (hs : sndW w) {I : am_I} (hQ : rQ I w T) {D : Nat} (hD : 90 ≤ D) (kk : ∀ I', rQ I' w T → ¬ I' 163 46 = 0 → (∀ o k, ¬ (183 ≤ o ∧ o ≤ 189) → ¬ (o = 163 ∧ (k = 46 ∨ k = 48)) → I' o k = I o k) → P (.inl none, (am_SH, I', J, Pf), 0, 0)) : am_mth D 271 [.ref 163] (am_SH, I, J, Pf) P := by
  obtain ⟨D', rfl⟩ : ∃ D', D = D' + 3 := ⟨D - 3, by omega⟩
  refine am_mth_of rfl rfl (v271_0 hp ?_)
  by_cases c0 : I 163 46 = 0
  · rw [if_pos c0]
    obtain ⟨h1, h2, h3, h4, h5, h6⟩ := id hQ
    have LP : ∀ (m x : Nat) (I1 : am_I), 25 - x = m → x ≤ 25 → (∀ y, y < x → I1 183 y = I 180 y) → (∀ o k, o ≠ 183 → I1 o k = I o k) → am_go none (D' + 2) 271 (10, [some (.ref 163), some (.int (ni x))], [], (am_SH, I1, J, Pf), 0, 0) P := by
      intro m
      induction m with
      | zero =>
        intro x I1 hm hx hc hf
        have : x = 25 := by omega
        subst this
        have hT : rTd 0 I1 T := ⟨by rw [hc _ (by omega)]; exact h3.1, h3.2.1, fun i hi => by
          have := h3.2.1
          rw [hc _ (by omega), Nat.mul_zero, Nat.zero_add]; exact h3.2.2 i hi⟩
        refine v271_10 hp ?_
        rw [if_pos (show (25 : Int32) ≤ ni 25 from by decide), show (0 : Int32) = ni 0 from rfl]
        refine rSLV_all hp hG hs 3 0 rfl _ (D' + 2) I1 T (by omega) ((funext fun y => hf _ _ (by omega)).trans h1) (fun s h8 => by rw [hf _ _ (by omega)]; exact h2 s h8) hT h4 (h5.of (hf _ _ (by omega)) (fun k => hf _ _ (by omega))) (fun I2 a1 a2 a3 => am_back (v271_39 hp ?_))
        refine kk _ ⟨?_, ?_, ?_, h4, ?_, Or.inr ⟨?_, ?_⟩⟩ ?_ ?_
        · funext y
          rw [am_u_nq (by omega), a3 _ _ (by omega) (by omega) (by omega) (by omega) (by omega), hf _ _ (by omega), h1]
        · intro s h8
          rw [am_u_nq (by omega), a3 _ _ (by omega) (by omega) (by omega) (by omega) (by omega), hf _ _ (by omega)]
          exact h2 s h8
        · refine ⟨?_, h3.2.1, fun i hi => ?_⟩
          · rw [am_u_nq (by omega), a3 _ _ (by omega) (by omega) (by omega) (by omega) (by omega), hf _ _ (by omega)]; exact h3.1
          · rw [am_u_nq (by omega), a3 _ _ (by omega) (by omega) (by omega) (by omega) (by omega), hf _ _ (by omega)]; exact h3.2.2 i hi
        · exact a2.of (am_u_nq (by omega)) (fun k => am_u_nq (by omega))
        · have := hT.ofS a3 (Nat.le_refl 0)
          exact ⟨by rw [am_u_nq (by omega)]; exact this.1, this.2.1, fun i hi => by rw [am_u_nq (by omega)]; exact this.2.2 i hi⟩
        · obtain ⟨⟨H, b1, b2, b3⟩, b4⟩ := a1
          exact ⟨⟨H, fun c hc => by rw [am_u_nq (by omega)]; exact b1 c hc, b2, b3⟩, fun q i hq hi => by rw [am_u_nq (by omega), am_u_nq (by omega)]; exact b4 q i hq hi⟩
        · rw [am_u_same]; decide
        · intro o k e1 e2
          rw [am_u_nq (by omega), a3 _ _ (by omega) (by omega) (by omega) (by omega) (by omega), hf _ _ (by omega)]
      | succ m ih =>
        intro x I1 hm hx hc hf
        refine v271_10 hp ?_
        rw [if_neg (fun z => absurd ((gle 25 (by omega) (by omega)).mp z) (by omega)), show (ni x).toNatClampNeg = x from ni_nat (by omega), ni_p1]
        refine ⟨ni_in (by omega) (by omega), ni_in (by omega) (by omega), ih (x + 1) _ (by omega) (by omega) (fun y hy => ?_) (fun o k e => by rw [am_u_nq (by omega)]; exact hf o k e)⟩
        by_cases cy : y = x
        · subst cy; rw [am_u_same, hf _ _ (by omega)]
        · rw [am_u_nq (by omega)]; exact hc y (by omega)
    rw [show (0 : Int32) = ni 0 from rfl]
    exact LP _ 0 I rfl (by omega) (fun y hy => absurd hy (by omega)) (fun _ _ _ => rfl)
  · rw [if_neg c0]
    exact kk I hQ c0 (fun _ _ _ _ => rfl)
/-- a text that is only tried: its sorts -/
theorem sr_sortsnow (hp : am_PF Pf) (hG : WG w) (hs : sndW w) {I : am_I} (hQ : rQ I w T) {B : TX} (hB : rTx 181 I B) (hBo : txOK B) {D : Nat} (hD : 90 ≤ D) (kk : ∀ I' v, rQ I' w T → bts v (fun t => t < 8 ∧ 0 < HHx w 3 B t 0 B.1) → (∀ o k, ¬ (183 ≤ o ∧ o ≤ 189) → ¬ (o = 163 ∧ (k = 46 ∨ k = 48)) → I' o k = I o k) → P (.inl (some (.int v)), (am_SH, I', J, Pf), 0, 0)) : am_mth D 272 [.ref 163] (am_SH, I, J, Pf) P := by
  obtain ⟨D', rfl⟩ : ∃ D', D = D' + 6 := ⟨D - 6, by omega⟩
  obtain ⟨h1, h2, h3, h4, h5, h6⟩ := id hQ
  refine am_mth_of rfl rfl (v272_0 hp ?_)
  have LP : ∀ (m x : Nat) (I1 : am_I), 25 - x = m → x ≤ 25 → (∀ y, y < x → I1 183 y = I 181 y) → (∀ o k, o ≠ 183 → I1 o k = I o k) → am_go none (D' + 5) 272 (2, [some (.ref 163), some (.int (ni x))], [], (am_SH, I1, J, Pf), 0, 0) P := by
    intro m
    induction m with
    | zero =>
      intro x I1 hm hx hc hf
      have : x = 25 := by omega
      subst this
      have h24 := hB.2.1
      have hT : rTd 0 I1 B := ⟨by rw [hc _ (by omega)]; exact hB.1, h24, fun i hi => by
        rw [hc _ (by omega), Nat.mul_zero, Nat.zero_add]; exact hB.2.2 i hi⟩
      refine v272_2 hp ?_
      rw [if_pos (show (25 : Int32) ≤ ni 25 from by decide), show (0 : Int32) = ni 0 from rfl]
      have h5' : rCa (am_u I1 163 46 (ni 0)) w := h5.of (by rw [am_u_nq (by omega)]; exact hf _ _ (by omega)) (fun k => by rw [am_u_nq (by omega)]; exact hf _ _ (by omega))
      refine rSLV_all hp hG hs 3 0 rfl _ (D' + 5) _ B (by omega) (by funext y; rw [am_u_nq (by omega), hf _ _ (by omega), h1]) (fun s h8 => by rw [am_u_nq (by omega), hf _ _ (by omega)]; exact h2 s h8) ⟨by rw [am_u_nq (by omega)]; exact hT.1, h24, fun i hi => by rw [am_u_nq (by omega)]; exact hT.2.2 i hi⟩ hBo h5' (fun I2 a1 a2 a3 => am_back (v272_36 hp ?_))
      rw [show (0 : Int32) = ni 0 from rfl]
      have hT2 : rTd 0 I2 B := rTd.ofS ⟨by rw [am_u_nq (by omega)]; exact hT.1, h24, fun i hi => by rw [am_u_nq (by omega)]; exact hT.2.2 i hi⟩ a3 (Nat.le_refl 0)
      obtain ⟨⟨H, b1, b2, b3⟩, b4⟩ := a1
      have hfr : ∀ o k, ¬ (183 ≤ o ∧ o ≤ 189) → ¬ (o = 163 ∧ (k = 46 ∨ k = 48)) → I2 o k = I o k := fun o k e1 e2 => by rw [a3 _ _ (by omega) (by omega) (by omega) (by omega) (by omega), am_u_nq (by omega), hf _ _ (by omega)]
      refine sr_wholeof (d0 := D' + 2) hp (Nat.zero_le 3) hT2 b1 b2 (by omega) (fun v hv => am_back (v272_41 hp ?_))
      refine kk I2 v ⟨?_, ?_, ?_, h4, a2, Or.inl ?_⟩ (fun j hj => ?_) hfr
      · funext y; rw [hfr _ _ (by omega) (by omega), h1]
      · intro s h8; rw [hfr _ _ (by omega) (by omega)]; exact h2 s h8
      · exact ⟨by rw [hfr _ _ (by omega) (by omega)]; exact h3.1, h3.2.1, fun i hi => by rw [hfr _ _ (by omega) (by omega)]; exact h3.2.2 i hi⟩
      · rw [a3 _ _ (by omega) (by omega) (by omega) (by omega) (by omega), am_u_same]; rfl
      · rw [hv j hj]
        constructor
        · rintro ⟨z1, z2⟩
          rw [b3 j 0 B.1 z1 (by omega) (by omega), if_pos ⟨Nat.zero_le _, Nat.le_refl _⟩] at z2
          exact ⟨z1, z2⟩
        · rintro ⟨z1, z2⟩
          refine ⟨z1, ?_⟩
          rw [b3 j 0 B.1 z1 (by omega) (by omega), if_pos ⟨Nat.zero_le _, Nat.le_refl _⟩]
          exact z2
    | succ m ih =>
      intro x I1 hm hx hc hf
      refine v272_2 hp ?_
      rw [if_neg (fun z => absurd ((gle 25 (by omega) (by omega)).mp z) (by omega)), show (ni x).toNatClampNeg = x from ni_nat (by omega), ni_p1]
      refine ⟨ni_in (by omega) (by omega), ni_in (by omega) (by omega), ih (x + 1) _ (by omega) (by omega) (fun y hy => ?_) (fun o k e => by rw [am_u_nq (by omega)]; exact hf o k e)⟩
      by_cases cy : y = x
      · subst cy; rw [am_u_same, hf _ _ (by omega)]
      · rw [am_u_nq (by omega)]; exact hc y (by omega)
  rw [show (0 : Int32) = ni 0 from rfl]
  exact LP _ 0 I rfl (by omega) (fun y hy => absurd hy (by omega)) (fun _ _ _ => rfl)
/-- the text, taken to be tried -/
theorem sr_take (hp : am_PF Pf) {I : am_I} (hT : rTx 180 I T) {d : Nat} (kk : ∀ I', rTx 181 I' T → (∀ o k, o ≠ 181 → I' o k = I o k) → P (.inl none, (am_SH, I', J, Pf), 0, 0)) : am_mth (d + 2) 273 [.ref 163] (am_SH, I, J, Pf) P := by
  have h24 := hT.2.1
  refine am_mth_of rfl rfl (v273_0 hp ?_)
  rw [show (25 : Int32) = ni 25 from rfl]
  refine sr_copies (d0 := d) hp (L := 25) (m := 25) rfl rfl (by omega) (by omega) (by omega) (Nat.le_refl _) (fun I' h1 h2 => am_back (v273_14 hp ?_))
  exact kk I' ⟨by rw [h1 _ (by omega)]; exact hT.1, h24, fun i hi => by rw [h1 _ (by omega)]; exact hT.2.2 i hi⟩ (fun o k e => h2 o k (by omega))
end KNW
