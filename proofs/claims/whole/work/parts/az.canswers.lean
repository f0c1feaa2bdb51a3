/-! Years and spans: the answers; the class's -/
def inB (x : Int32) (a b : Nat) : Prop := ∃ n, x = ni n ∧ a ≤ n ∧ n ≤ b
theorem inB_of {x : Int32} {b : Nat} (hb : b < 2147483648) (h0 : ¬ x < 1) (h1 : ¬ ni b < x) : inB x 1 b := by
  obtain ⟨n, e, hn⟩ := inW_of hb (fun z => h0 (by
    rw [Int32.lt_iff_toInt_lt] at z ⊢
    have e0 : (0 : Int32).toInt = 0 := by decide
    have e1 : (1 : Int32).toInt = 1 := by decide
    omega)) h1
  refine ⟨n, e, ?_, hn⟩
  rw [e] at h0
  by_cases c : n < 1
  · exact absurd ((llt 1 (by omega) (by omega)).mpr c) h0
  · omega
theorem inB_lo {x : Int32} {b : Nat} (hb : b < 2147483648) (h0 : x < 1) : ¬ inB x 1 b := fun ⟨n, e, h1, h2⟩ => by
  rw [e] at h0
  have := (llt 1 (by omega) (by omega)).mp h0
  omega
theorem inB_hi {x : Int32} {a b : Nat} (hb : b < 2147483648) (h0 : ni b < x) : ¬ inB x a b := fun ⟨n, e, h1, h2⟩ => by
  rw [e] at h0
  have := (ni_lt (by omega) (by omega)).mp h0
  omega
section YRM
variable (E : TX → Int32 → Bool × TX × Int32) (w : Nat → Int32) (T : TX)
noncomputable def aYr (z : Int32) (n c : Nat) : Int32 := if c = 0 then ni (yrS E w T z n).1.1 else if c = 1 then bsV (fun s => s < 8 ∧ 0 < HHx w 3 (yrS E w T z n).1 s 0 (yrS E w T z n).1.1) else if c = 2 then ni (yrS E w T z n).2.2.1 else ni (yrS E w T z n).2.2.2
/-- over so many seeds: the least length, the greatest, how often a sort -/
noncomputable def spL (z : Int32) (n : Nat) : Nat → Nat
  | 0 => 24
  | k + 1 => if (yrS E w T (z + ni k) n).1.1 < spL z n k then (yrS E w T (z + ni k) n).1.1 else spL z n k
noncomputable def spG (z : Int32) (n : Nat) : Nat → Nat
  | 0 => 0
  | k + 1 => if spG z n k < (yrS E w T (z + ni k) n).1.1 then (yrS E w T (z + ni k) n).1.1 else spG z n k
noncomputable def spC (z : Int32) (n s : Nat) : Nat → Nat
  | 0 => 0
  | k + 1 => spC z n s k + (if 0 < HHx w 3 (yrS E w T (z + ni k) n).1 s 0 (yrS E w T (z + ni k) n).1.1 then 1 else 0)
noncomputable def aSp (z : Int32) (m n c s : Nat) : Int32 := if c = 2 then ni (spC E w T z n s m) else if c = 0 then ni (spL E w T z n m) else ni (spG E w T z n m)
end YRM
noncomputable def qYr (f : Int32 → Nat → Nat → Int32) (x1 x2 x3 : Int32) : Sum Nat Int32 := cif (inB x2 1 24 ∧ inW x3 3) (.inr (f x1 x2.toNatClampNeg x3.toNatClampNeg)) (.inl 1)
theorem qYr_t {f : Int32 → Nat → Nat → Int32} {x1 : Int32} {n c : Nat} (h1 : 1 ≤ n) (hn : n ≤ 24) (hc : c ≤ 3) : qYr f x1 (ni n) (ni c) = .inr (f x1 n c) := by
  unfold qYr
  rw [cif_t ⟨⟨n, rfl, h1, hn⟩, ⟨c, rfl, hc⟩⟩, ni_nat (by omega), ni_nat (by omega)]
theorem qYr_f {f : Int32 → Nat → Nat → Int32} {x1 x2 x3 : Int32} (h : ¬ (inB x2 1 24 ∧ inW x3 3)) : qYr f x1 x2 x3 = .inl 1 := cif_f h
noncomputable def qSp (f : Int32 → Nat → Nat → Nat → Nat → Int32) (x1 x2 x3 x4 x5 : Int32) : Sum Nat Int32 := cif (inB x2 1 4 ∧ inB x3 1 24 ∧ inW x4 2 ∧ inW x5 7) (.inr (f x1 x2.toNatClampNeg x3.toNatClampNeg x4.toNatClampNeg x5.toNatClampNeg)) (.inl 1)
theorem qSp_t {f : Int32 → Nat → Nat → Nat → Nat → Int32} {x1 : Int32} {m n c s : Nat} (hm1 : 1 ≤ m) (hm : m ≤ 4) (h1 : 1 ≤ n) (hn : n ≤ 24) (hc : c ≤ 2) (hs : s ≤ 7) : qSp f x1 (ni m) (ni n) (ni c) (ni s) = .inr (f x1 m n c s) := by
  unfold qSp
  rw [cif_t ⟨⟨m, rfl, hm1, hm⟩, ⟨n, rfl, h1, hn⟩, ⟨c, rfl, hc⟩, ⟨s, rfl, hs⟩⟩, ni_nat (by omega), ni_nat (by omega), ni_nat (by omega), ni_nat (by omega)]
theorem qSp_f {f : Int32 → Nat → Nat → Nat → Nat → Int32} {x1 x2 x3 x4 x5 : Int32} (h : ¬ (inB x2 1 4 ∧ inB x3 1 24 ∧ inW x4 2 ∧ inW x5 7)) : qSp f x1 x2 x3 x4 x5 = .inl 1 := cif_f h
theorem spL_le {E : TX → Int32 → Bool × TX × Int32} {w : Nat → Int32} {T : TX} {z : Int32} {n : Nat} : ∀ k, spL E w T z n k ≤ 24
  | 0 => Nat.le_refl _
  | k + 1 => by
    have := spL_le (E := E) (w := w) (T := T) (z := z) (n := n) k
    unfold spL
    split <;> omega
theorem spG_le {E : TX → Int32 → Bool × TX × Int32} (hEk : ∀ U z1, txOK U → txOK (E U z1).2.1) {w : Nat → Int32} {T : TX} (hT : txOK T) {z : Int32} {n : Nat} : ∀ k, spG E w T z n k ≤ 24
  | 0 => Nat.zero_le _
  | k + 1 => by
    have := spG_le hEk (w := w) hT (z := z) (n := n) k
    have h2 := (yrS_ok hEk (w := w) (z := z + ni k) hT n).1
    unfold spG
    split <;> omega
theorem spC_le {E : TX → Int32 → Bool × TX × Int32} {w : Nat → Int32} {T : TX} {z : Int32} {n s : Nat} : ∀ k, spC E w T z n s k ≤ k
  | 0 => Nat.zero_le _
  | k + 1 => by
    have := spC_le (E := E) (w := w) (T := T) (z := z) (n := n) (s := s) k
    unfold spC
    split <;> omega
theorem bts_u1 {v : Int32} {P : Nat → Prop} (h : bts v P) {j : Nat} (hj : j < 32) (hP : P j) : (UInt32.toInt32 (Int32.toUInt32 v >>> (Int32.toUInt32 (ni j) &&& Int32.toUInt32 31))) &&& 1 = 1 := (and1 _).resolve_left (fun z => (bts_us h hj).mp z hP)
section YRA
variable {P : am_O → Prop} {J : am_J} {Pf : am_R} {T : TX} {w : Nat → Int32} {r : Nat} {E : TX → Int32 → Bool × TX × Int32}
/-- the tried text: its sorts -/
theorem sc_lookt (hp : am_PF Pf) (hr : r = 16 ∨ r = 55) (hF : cFn Pf r) (hG : WG w) (hs : sndW w) {I : am_I} (hR : cRs r I J w) {B : TX} (hB : cTx 140 I B) (hBo : txOK B) (hK : cKp I J w) {D : Nat} (hD : 110 ≤ D) (kk : ∀ I' J' v, bts v (fun s => s < 8 ∧ 0 < HHx w 3 B s 0 B.1) → cTx 140 I' B → cKp I' J' w → cZf I I' → cJf J J' → P (.inl (some (.int v)), (am_SH, I', J', Pf), 0, 0)) : am_mth D 181 [.ref 0] (am_SH, I, J, Pf) P := by
  obtain ⟨D', rfl⟩ : ∃ D', D = D' + 3 := ⟨D - 3, by omega⟩
  refine am_mth_of rfl rfl (v181_0 hp ?_)
  rw [hB.1, show (0 : Int32) = ni 0 from rfl]
  refine cFIL_all hp hr hF hG hs 3 0 rfl _ _ 140 _ I J _ (by omega) rfl (by omega) (Or.inr (by omega)) hR hB hBo hK (Nat.le_refl _) (fun i a b => absurd a (Nat.not_lt.mpr b)) (fun I3 J3 k1 k2 k3 k4 => am_back (v181_19 hp ?_))
  have hrow := k1.2.2 0 (Nat.zero_le _)
  refine sc_whole (d := D') (H := HHx w 3 B) hp rfl k1.1 ?_ (fun u hu => am_back (v181_26 hp ?_))
  · exact fun s hs => hrow.1 s hs
  · exact kk I3 J3 u hu k1.1 k2 k3.z k4
theorem sc_yearq (hEk : ∀ U z1, txOK U → txOK (E U z1).2.1) (hE : ∀ U z1, yrD U (dV (dS z1) 4) (dS z1) = E U z1) (hp : am_PF Pf) (hr : r = 16 ∨ r = 55) (hF : cFn Pf r) (hG : WG w) (hs : sndW w) {I : am_I} (hQ : cQ r I J w T) {D : Nat} (hD : 140 ≤ D) {x1 x2 x3 : Int32} (kk : cA P Pf r w T I J (qYr (aYr E w T) x1 x2 x3)) : am_mth D 169 [.ref 0, .int x1, .int x2, .int x3] (am_SH, I, J, Pf) P := by
  obtain ⟨D', rfl⟩ : ∃ D', D = D' + 10 := ⟨D - 10, by omega⟩
  have hTo := hQ.2.2.1
  refine am_mth_of rfl rfl (v169_0 hp ?_)
  rw [show (24 : Int32) = ni 24 from rfl]
  refine sc_within (d := D' + 3) hp (fun c1 c2 => am_back (v169_8 hp ?_)) (fun c => am_thru rfl ?_)
  · obtain ⟨n, hn, hn1, hn24⟩ := inB_of (by omega) c1 c2
    rw [show (3 : Int32) = ni 3 from rfl]
    refine sc_in (d := D' + 3) (n := 3) hp (by omega) (fun c hc hc3 => am_back (v169_15 hp ?_)) (fun hb => am_thru rfl ?_)
    · subst hn hc
      rw [qYr_t hn1 hn24 hc3] at kk
      have hle := yrS_le (E := E) (w := w) (T := T) (z := x1) n
      have hok := yrS_ok hEk (w := w) (z := x1) hTo n
      have key : ∀ (b : Bool), (b = true ↔ c = 3) → am_mth (D' + 9) 183 [.ref 0, .int x1, .int (ni n), .int (b2 b)] (am_SH, I, J, Pf) (am_af none (D' + 9) 169 28 [some (.ref 0), some (.int x1), some (.int (ni n)), some (.int (ni c)), none] [.int (b2 b), .int (ni n), .int x1, .ref 0] [] (am_SH, I, J, Pf) 0 0 true P) := by
        intro b hb
        refine sc_pass hEk hE hp hr hF hG hs hQ hn24 b x1 (by omega) (fun I1 J1 a1 a2 a3 a4 => am_back (v169_31 hp ?_))
        have hQ1 : cQ r I1 J1 w T := hQ.aft hr hG a2 (fun o k e1 e2 e3 => a3 o k e3 e1 e2) (fun o ho => a4 o (by omega))
        have hf1 : cQf I I1 := fun o k e1 e2 e3 e4 e5 => a3 o k (by omega) e4 (by omega)
        have hkk := kk I1 J1 hQ1 hf1 a4.q
        unfold aYr at hkk
        have ec : c = 0 ∨ c = 1 ∨ c = 2 ∨ c = 3 := by omega
        rcases ec with rfl | rfl | rfl | rfl
        · rw [if_pos rfl] at hkk
          rw [if_pos (by decide), a1.1]
          exact hkk
        · rw [if_neg (by decide), if_pos (by decide)]
          refine sc_lookt hp hr hF hG hs hQ1.1 a1 hok a2 (by omega) (fun I2 J2 v q1 q2 q3 q4 q5 => am_back (v169_72 hp ?_))
          have hQ2 : cQ r I2 J2 w T := hQ1.aft hr hG q3 (fun o k e1 e2 e3 => q4 o k e3 e1 e2) (fun o ho => q5 o (by omega))
          have hkk := kk I2 J2 hQ2 (hf1.trans (fun o k e1 e2 e3 e4 e5 => q4 o k (by omega) e4 (by omega))) (a4.q.trans q5.q)
          unfold aYr at hkk
          rw [if_neg (by decide), if_pos rfl, bsV_eq q1] at hkk
          exact hkk
        · have e : b = false := by
            cases b with
            | false => rfl
            | true => exact absurd (hb.mp rfl) (by omega)
          subst e
          rw [if_neg (by decide), if_neg (by decide), if_pos rfl] at hkk
          rw [if_neg (by decide), if_neg (by decide)]
          exact hkk
        · have e : b = true := hb.mpr rfl
          subst e
          rw [if_neg (by decide), if_neg (by decide), if_neg (by decide)] at hkk
          rw [if_neg (by decide), if_neg (by decide)]
          exact hkk
      by_cases c3 : c = 3
      · subst c3
        rw [if_pos (by decide)]
        exact key true (by simp)
      · rw [if_neg (fun z => c3 ((leq 3 (by omega) (by omega)).mp z))]
        exact key false ⟨(fun z => absurd z (by decide)), (fun z => absurd z c3)⟩
    · rw [qYr_f (fun z => hb z.2)] at kk
      exact kk
  · rw [qYr_f (fun z => c.elim (fun y => inB_lo (by omega) y z.1) (fun y => inB_hi (by omega) y z.1))] at kk
    exact kk
theorem sc_spanq (hEk : ∀ U z1, txOK U → txOK (E U z1).2.1) (hE : ∀ U z1, yrD U (dV (dS z1) 4) (dS z1) = E U z1) (hp : am_PF Pf) (hr : r = 16 ∨ r = 55) (hF : cFn Pf r) (hG : WG w) (hs : sndW w) {I : am_I} (hQ : cQ r I J w T) {D : Nat} (hD : 140 ≤ D) {x1 x2 x3 x4 x5 : Int32} (kk : cA P Pf r w T I J (qSp (aSp E w T) x1 x2 x3 x4 x5)) : am_mth D 170 [.ref 0, .int x1, .int x2, .int x3, .int x4, .int x5] (am_SH, I, J, Pf) P := by
  obtain ⟨D', rfl⟩ : ∃ D', D = D' + 10 := ⟨D - 10, by omega⟩
  have hTo := hQ.2.2.1
  refine am_mth_of rfl rfl (v170_0 hp ?_)
  rw [show (4 : Int32) = ni 4 from rfl]
  refine sc_within (d := D' + 3) hp (fun c1 c2 => am_back (v170_7 hp ?_)) (fun c => am_thru rfl ?_)
  · obtain ⟨m, hm, hm1, hm4⟩ := inB_of (by omega) c1 c2
    rw [show (24 : Int32) = ni 24 from rfl]
    refine sc_within (d := D' + 3) hp (fun c1 c2 => am_back (v170_15 hp ?_)) (fun c => am_thru rfl ?_)
    · obtain ⟨n, hn, hn1, hn24⟩ := inB_of (by omega) c1 c2
      rw [show (2 : Int32) = ni 2 from rfl]
      refine sc_in (d := D' + 3) (n := 2) hp (by omega) (fun c hc hc2 => am_back (v170_23 hp ?_)) (fun hb => am_thru rfl ?_)
      · refine sc_nsort (d := D' + 2) hp (fun s hs1 h8 => am_back (v170_29 hp ?_)) (fun hb => am_thru rfl ?_)
        · subst hm hn hc hs1
          rw [qSp_t hm1 hm4 hn1 hn24 hc2 (show s ≤ 7 by omega)] at kk
          have LP : ∀ (y k : Nat) (I1 : am_I) (J1 : am_J) (f : Nat), m - k = y → k ≤ m → cQ r I1 J1 w T → cQf I I1 → cQj J J1 → (c = 2 → f = spC E w T x1 n s k) → am_go none (D' + 9) 170 (42, [some (.ref 0), some (.int x1), some (.int (ni m)), some (.int (ni n)), some (.int (ni c)), some (.int (ni s)), some (.int (ni (spL E w T x1 n k))), some (.int (ni (spG E w T x1 n k))), some (.int (ni f)), some (.int (ni k))], [], (am_SH, I1, J1, Pf), 0, 0) P := by
            intro y
            induction y with
            | zero =>
              intro k I1 J1 f hy hk g1 g2 g3 hf
              obtain rfl : k = m := by omega
              refine v170_42 hp ?_
              rw [if_pos ((ni_le (by omega) (by omega)).mpr (Nat.le_refl _))]
              have hkk := kk I1 J1 g1 g2 g3
              unfold aSp at hkk
              have ec : c = 0 ∨ c = 1 ∨ c = 2 := by omega
              rcases ec with rfl | rfl | rfl
              · rw [if_neg (by decide), if_pos rfl] at hkk
                rw [if_neg (by decide), if_pos (by decide)]; exact hkk
              · rw [if_neg (by decide), if_neg (by decide)] at hkk
                rw [if_neg (by decide), if_neg (by decide)]; exact hkk
              · rw [if_pos rfl] at hkk
                rw [if_pos (by decide), hf rfl]; exact hkk
            | succ y ih =>
              intro k I1 J1 f hy hk g1 g2 g3 hf
              have l1 := spL_le (E := E) (w := w) (T := T) (z := x1) (n := n) k
              have l2 := spG_le hEk (w := w) hTo (z := x1) (n := n) k
              have hok := yrS_ok hEk (w := w) (z := x1 + ni k) hTo n
              have hLn := hok.1
              refine v170_42 hp ?_
              rw [if_neg (fun z => absurd ((ni_le (by omega) (by omega)).mp z) (by omega)), show (0 : Int32) = b2 false from rfl]
              refine sc_pass hEk hE hp hr hF hG hs g1 hn24 false (x1 + ni k) (by omega) (fun I2 J2 a1 a2 a3 a4 => am_back (v170_58 hp ?_))
              have hQ2 : cQ r I2 J2 w T := g1.aft hr hG a2 (fun o k e1 e2 e3 => a3 o k e3 e1 e2) (fun o ho => a4 o (by omega))
              have hf2 : cQf I I2 := g2.trans (fun o k e1 e2 e3 e4 e5 => a3 o k (by omega) e4 (by omega))
              have hj2 : cQj J J2 := g3.trans a4.q
              rw [a1.1, ni_p1]
              -- behind the lengths
              have nx : ∀ (l g : Nat), l = spL E w T x1 n (k + 1) → g = spG E w T x1 n (k + 1) → (if ni c = 2 then am_mth (D' + 9) 181 [.ref 0] (am_SH, I2, J2, Pf) (am_af none (D' + 9) 170 96 [some (.ref 0), some (.int x1), some (.int (ni m)), some (.int (ni n)), some (.int (ni c)), some (.int (ni s)), some (.int (ni l)), some (.int (ni g)), some (.int (ni f)), some (.int (ni k))] [.ref 0, .int (ni f)] [.int (ni f)] (am_SH, I2, J2, Pf) 0 0 true P) else am_go none (D' + 9) 170 (42, [some (.ref 0), some (.int x1), some (.int (ni m)), some (.int (ni n)), some (.int (ni c)), some (.int (ni s)), some (.int (ni l)), some (.int (ni g)), some (.int (ni f)), some (.int (ni (k + 1)))], [], (am_SH, I2, J2, Pf), 0, 0) P) := by
                intro l g hl hg
                by_cases c2 : c = 2
                · subst c2
                  rw [if_pos (by decide)]
                  refine sc_lookt hp hr hF hG hs hQ2.1 a1 hok a2 (by omega) (fun I3 J3 v q1 q2 q3 q4 q5 => am_back (v170_99 hp ?_))
                  have hQ3 : cQ r I3 J3 w T := hQ2.aft hr hG q3 (fun o k e1 e2 e3 => q4 o k e3 e1 e2) (fun o ho => q5 o (by omega))
                  have hf3 : cQf I I3 := hf2.trans (fun o k e1 e2 e3 e4 e5 => q4 o k (by omega) e4 (by omega))
                  have hj3 : cQj J J3 := hj2.trans q5.q
                  have eC : spC E w T x1 n s (k + 1) = spC E w T x1 n s k + (if 0 < HHx w 3 (yrS E w T (x1 + ni k) n).1 s 0 (yrS E w T (x1 + ni k) n).1.1 then 1 else 0) := rfl
                  rw [ni_p1, hl, hg]
                  by_cases c0 : 0 < HHx w 3 (yrS E w T (x1 + ni k) n).1 s 0 (yrS E w T (x1 + ni k) n).1.1
                  · rw [bts_u1 q1 (show s < 32 by omega) ⟨h8, c0⟩, ni_p1]
                    exact ih (k + 1) I3 J3 (f + 1) (by omega) (by omega) hQ3 hf3 hj3 (fun _ => by rw [eC, if_pos c0, hf rfl])
                  · rw [(bts_us q1 (show s < 32 by omega)).mpr (fun z => c0 z.2), Int32.add_zero]
                    exact ih (k + 1) I3 J3 f (by omega) (by omega) hQ3 hf3 hj3 (fun _ => by rw [eC, if_neg c0, hf rfl, Nat.add_zero])
                · rw [if_neg (fun z => c2 ((leq 2 (by omega) (by omega)).mp z)), hl, hg]
                  exact ih (k + 1) I2 J2 f (by omega) (by omega) hQ2 hf2 hj2 (fun z => absurd z c2)
              have eL : spL E w T x1 n (k + 1) = if (yrS E w T (x1 + ni k) n).1.1 < spL E w T x1 n k then (yrS E w T (x1 + ni k) n).1.1 else spL E w T x1 n k := rfl
              have eG : spG E w T x1 n (k + 1) = if spG E w T x1 n k < (yrS E w T (x1 + ni k) n).1.1 then (yrS E w T (x1 + ni k) n).1.1 else spG E w T x1 n k := rfl
              by_cases cl : (yrS E w T (x1 + ni k) n).1.1 < spL E w T x1 n k
              · rw [if_pos cl] at eL
                rw [if_pos ((ni_lt (by omega) (by omega)).mpr cl)]
                by_cases cg : spG E w T x1 n k < (yrS E w T (x1 + ni k) n).1.1
                · rw [if_pos cg] at eG
                  rw [if_pos ((ni_lt (by omega) (by omega)).mpr cg)]
                  exact nx _ _ eL.symm eG.symm
                · rw [if_neg cg] at eG
                  rw [if_neg (fun z => cg ((ni_lt (by omega) (by omega)).mp z))]
                  exact nx _ _ eL.symm eG.symm
              · rw [if_neg cl] at eL
                rw [if_neg (fun z => cl ((ni_lt (by omega) (by omega)).mp z))]
                by_cases cg : spG E w T x1 n k < (yrS E w T (x1 + ni k) n).1.1
                · rw [if_pos cg] at eG
                  rw [if_pos ((ni_lt (by omega) (by omega)).mpr cg)]
                  exact nx _ _ eL.symm eG.symm
                · rw [if_neg cg] at eG
                  rw [if_neg (fun z => cg ((ni_lt (by omega) (by omega)).mp z))]
                  exact nx _ _ eL.symm eG.symm
          exact LP m 0 I J 0 rfl (Nat.zero_le _) hQ cQf.rfl' cQj.rfl' (fun _ => rfl)
        · rw [qSp_f (fun z => hb z.2.2.2)] at kk
          exact kk
      · rw [qSp_f (fun z => hb z.2.2.1)] at kk
        exact kk
    · rw [qSp_f (fun z => c.elim (fun y => inB_lo (by omega) y z.2.1) (fun y => inB_hi (by omega) y z.2.1))] at kk
      exact kk
  · rw [qSp_f (fun z => c.elim (fun y => inB_lo (by omega) y z.1) (fun y => inB_hi (by omega) y z.1))] at kk
    exact kk
end YRA
