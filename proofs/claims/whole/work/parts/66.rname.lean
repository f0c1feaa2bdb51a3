/-! The reference's names -/
/-- letters as one number -/
def wcode (b : Nat → Int32) (q : Nat) : Nat → Nat
  | 0 => 0
  | m + 1 => 32 * wcode b q m + ((b (q + m)).toNatClampNeg - 96)
def wv (b : Nat → Int32) (q e : Nat) : Int32 := if e - q ≤ 6 then ni (wcode b q (e - q)) else 0
def ofc (x : Nat) : Int32 := ni (wcode (fun i => (am_sb (x - 2)).getD i 0) 0 (am_sb (x - 2)).length)
theorem isLt_ni {x : Int32} (h : isLt x = true) : ∃ c : Nat, x = ni c ∧ 97 ≤ c ∧ c ≤ 122 := by
  have h1 := of_decide_eq_true h
  have h0 : (0 : Int32) ≤ x := Int32.le_trans (by decide) h1.1
  obtain ⟨c, hc, rfl⟩ := ni_of' h0
  refine ⟨c, rfl, ?_, ?_⟩
  · exact (gle 97 (by omega) hc).mp h1.1
  · exact (lle 122 hc (by omega)).mp h1.2
theorem isLt_d {x : Int32} : (isLt x = true) ↔ (¬ x < 97 ∧ ¬ 122 < x) := by
  unfold isLt
  rw [decide_eq_true_iff, i_nlt, i_nlt]
theorem wcode_lt {b : Nat → Int32} {q : Nat} : ∀ m : Nat, (∀ i, i < m → isLt (b (q + i)) = true) → wcode b q m < 32 ^ m
  | 0, _ => Nat.one_pos
  | m + 1, h => by
    have h1 := wcode_lt m (fun i hi => h i (by omega))
    obtain ⟨c, hc, h2, h3⟩ := isLt_ni (h m (by omega))
    unfold wcode
    rw [hc, ni_nat (by omega), Nat.pow_succ]
    omega
theorem wcode_le {b : Nat → Int32} {q m : Nat} (h : ∀ i, i < m → isLt (b (q + i)) = true) (h6 : m ≤ 6) : wcode b q m < 1073741824 := by
  have h1 := wcode_lt m h
  have h2 : 32 ^ m ≤ 32 ^ 6 := Nat.pow_le_pow_right (by omega) h6
  have h3 : 32 ^ 6 = 1073741824 := by decide
  omega
theorem wcode_inj {b b' : Nat → Int32} {q q' : Nat} : ∀ m m' : Nat, (∀ i, i < m → isLt (b (q + i)) = true) → (∀ i, i < m' → isLt (b' (q' + i)) = true) → wcode b q m = wcode b' q' m' → m = m' ∧ ∀ i, i < m → b (q + i) = b' (q' + i)
  | 0, 0, _, _, _ => ⟨rfl, fun i hi => absurd hi (by omega)⟩
  | 0, m' + 1, _, h', e => by
    obtain ⟨c, hc, h2, h3⟩ := isLt_ni (h' m' (by omega))
    unfold wcode at e
    rw [hc, ni_nat (by omega)] at e
    omega
  | m + 1, 0, h, _, e => by
    obtain ⟨c, hc, h2, h3⟩ := isLt_ni (h m (by omega))
    unfold wcode at e
    rw [hc, ni_nat (by omega)] at e
    omega
  | m + 1, m' + 1, h, h', e => by
    obtain ⟨c, hc, h2, h3⟩ := isLt_ni (h m (by omega))
    obtain ⟨c', hc', h2', h3'⟩ := isLt_ni (h' m' (by omega))
    unfold wcode at e
    rw [hc, hc', ni_nat (by omega), ni_nat (by omega)] at e
    obtain ⟨g1, g2⟩ := wcode_inj m m' (fun i hi => h i (by omega)) (fun i hi => h' i (by omega)) (by omega)
    subst g1
    refine ⟨rfl, fun i hi => ?_⟩
    by_cases hi2 : i = m
    · subst hi2
      rw [hc, hc']
      congr 1
      omega
    · exact g2 i (by omega)
theorem nmF_iff {b : Nat → Int32} {a0 : Nat} {t : List Int32} : ∀ (f k : Nat), (nmF b a0 t f k = true) ↔ ∀ i, k ≤ i → i < k + f → b (a0 + i) = t.getD i 0
  | 0, k => ⟨fun _ i h1 h2 => absurd h1 (by omega), fun _ => rfl⟩
  | f + 1, k => by
    unfold nmF
    split
    · rename_i c
      rw [nmF_iff f (k + 1)]
      constructor
      · intro h i h1 h2
        by_cases hi : i = k
        · subst hi; exact c
        · exact h i (by omega) (by omega)
      · intro h i h1 h2
        exact h i (by omega) (by omega)
    · rename_i c
      constructor
      · intro h; cases h
      · intro h; exact absurd (h k (Nat.le_refl _) (by omega)) c
theorem nmB_iff {b : Nat → Int32} {a0 a : Nat} {t : List Int32} : (nmB b a0 a t = true) ↔ (a - a0 = t.length ∧ ∀ i, i < t.length → b (a0 + i) = t.getD i 0) := by
  unfold nmB
  rw [Bool.and_eq_true, decide_eq_true_iff, nmF_iff]
  constructor
  · rintro ⟨h1, h2⟩
    exact ⟨h1, fun i hi => h2 i (Nat.zero_le _) (by omega)⟩
  · rintro ⟨h1, h2⟩
    exact ⟨h1, fun i _ hi => h2 i (by omega)⟩
theorem tx_w : (List.range 19).all (fun q => decide ((am_sb q).length ≤ 6 ∧ 1 ≤ (am_sb q).length) && (List.range (am_sb q).length).all (fun i => isLt ((am_sb q).getD i 0))) = true := by decide +kernel
theorem tx_w1 {x : Nat} (h : x < 21) (h2 : 2 ≤ x) : ((am_sb (x - 2)).length ≤ 6 ∧ 1 ≤ (am_sb (x - 2)).length) ∧ ∀ i, i < (am_sb (x - 2)).length → isLt ((am_sb (x - 2)).getD i 0) = true := by
  have := List.all_eq_true.mp tx_w (x - 2) (List.mem_range.mpr (by omega))
  rw [Bool.and_eq_true] at this
  exact ⟨of_decide_eq_true this.1, fun i hi => List.all_eq_true.mp this.2 i (List.mem_range.mpr hi)⟩
/-- a name's number tells the name -/
theorem wv_eq0 {b : Nat → Int32} {q e : Nat} {t : List Int32} (h6 : t.length ≤ 6) (h1 : 1 ≤ t.length) (hL : ∀ i, i < t.length → isLt (t.getD i 0) = true) (h : ∀ i, i < e - q → isLt (b (q + i)) = true) : (wv b q e = ni (wcode (fun i => t.getD i 0) 0 t.length)) ↔ nmB b q e t = true := by
  have hL' : ∀ i, i < t.length → isLt ((fun i => t.getD i 0) (0 + i)) = true := fun i hi => by rw [Nat.zero_add]; exact hL i hi
  rw [nmB_iff]
  unfold wv
  have hb := wcode_le (b := fun i => t.getD i 0) (q := 0) hL' h6
  by_cases c : e - q ≤ 6
  · rw [if_pos c]
    have ha := wcode_le h c
    rw [ni_inj (by omega) (by omega)]
    constructor
    · intro z
      obtain ⟨g1, g2⟩ := wcode_inj (b' := fun i => t.getD i 0) (q' := 0) _ _ h hL' z
      refine ⟨g1, fun i hi => ?_⟩
      rw [g2 i (by omega), Nat.zero_add]
    · rintro ⟨g1, g2⟩
      rw [g1]
      have : ∀ m, m ≤ t.length → wcode b q m = wcode (fun i => t.getD i 0) 0 m := by
        intro m
        induction m with
        | zero => intro _; rfl
        | succ m ih =>
          intro hm
          unfold wcode
          rw [ih (by omega), g2 m (by omega), Nat.zero_add]
      exact this _ (Nat.le_refl _)
  · rw [if_neg c]
    constructor
    · intro z
      exfalso
      have z2 : ni 0 = ni (wcode (fun i => t.getD i 0) 0 t.length) := z
      rw [ni_inj (by omega) (by omega)] at z2
      have : wcode (fun i => t.getD i 0) 0 0 = wcode (fun i => t.getD i 0) 0 t.length := z2
      have := (wcode_inj (b := fun i => t.getD i 0) (b' := fun i => t.getD i 0) (q := 0) (q' := 0) 0 _ (fun i hi => absurd hi (by omega)) hL' this).1
      omega
    · rintro ⟨g1, g2⟩
      omega
theorem wv_eq {b : Nat → Int32} {q e x : Nat} (hx : x < 21) (hx2 : 2 ≤ x) (h : ∀ i, i < e - q → isLt (b (q + i)) = true) : (wv b q e = ofc x) ↔ nmB b q e (am_sb (x - 2)) = true :=
  wv_eq0 (tx_w1 hx hx2).1.1 (tx_w1 hx hx2).1.2 (tx_w1 hx hx2).2 h
theorem ltF_all {b : Nat → Int32} : ∀ (f a i : Nat), i < ltF b f a - a → isLt (b (a + i)) = true
  | 0, a, i, h => by simp [ltF] at h
  | f + 1, a, i, h => by
    unfold ltF at h
    split at h
    · rename_i c
      by_cases hi : i = 0
      · subst hi; exact c
      · have := ltF_all (b := b) f (a + 1) (i - 1) (by omega)
        rw [show a + 1 + (i - 1) = a + i by omega] at this
        exact this
    · omega
theorem ni_shl5 {v w : Nat} (hv : v < 33554432) (hw : w < 32) : (ni v <<< ((5 : Int32) &&& 31)) ||| ni w = ni (32 * v + w) := by
  rw [show ((5 : Int32) &&& 31) = 5 from by decide]
  rw [← Int32.toBitVec_inj]
  apply BitVec.eq_of_toNat_eq
  have e1 : ((ni v <<< (5 : Int32)) ||| ni w).toBitVec = (BitVec.ofNat 32 v <<< 5) ||| BitVec.ofNat 32 w := by
    rw [Int32.toBitVec_or]
    congr 1
  rw [e1]
  show _ = (BitVec.ofNat 32 (32 * v + w)).toNat
  rw [BitVec.toNat_or, BitVec.toNat_shiftLeft, BitVec.toNat_ofNat, BitVec.toNat_ofNat, BitVec.toNat_ofNat, Nat.mod_eq_of_lt (a := v) (by omega), Nat.mod_eq_of_lt (a := w) (by omega), Nat.mod_eq_of_lt (a := 32 * v + w) (by omega), Nat.shiftLeft_eq, Nat.mod_eq_of_lt (by omega)]
  have := Nat.shiftLeft_add_eq_or_of_lt (b := w) (i := 5) (by omega) v
  rw [Nat.shiftLeft_eq] at this
  rw [← this]
  omega
theorem of_step {t : List Int32} {k : Nat} (h6 : k < t.length ∧ t.length ≤ 6) (hL : ∀ i, i < t.length → isLt (t.getD i 0) = true) : (ni (wcode (fun i => t.getD i 0) 0 k) <<< ((5 : Int32) &&& 31)) ||| (t.getD k 0 - 96) = ni (wcode (fun i => t.getD i 0) 0 (k + 1)) := by
  obtain ⟨c, hc, k1, k2⟩ := isLt_ni (hL k h6.1)
  have hL' : ∀ i, i < k → isLt ((fun i => t.getD i 0) (0 + i)) = true := fun i hi => by rw [Nat.zero_add]; exact hL i (by omega)
  have hlt := wcode_lt (b := fun i => t.getD i 0) (q := 0) k hL'
  have h32 : 32 ^ k ≤ 32 ^ 5 := Nat.pow_le_pow_right (by omega) (by omega)
  have h33 : 32 ^ 5 = 33554432 := by decide
  rw [hc, show ni c - 96 = ni (c - 96) from ni_sub (b := 96) (by omega), ni_shl5 (by omega) (by omega)]
  show _ = ni (32 * _ + ((t.getD (0 + k) 0).toNatClampNeg - 96))
  rw [Nat.zero_add, hc, ni_nat (by omega)]
section RR4
variable {d : Nat} {P : am_O → Prop} {J : am_J} {Pf : am_R} {n : Nat} {b : Nat → Int32}
theorem rr_name (hp : am_PF Pf) {q : Nat} : ∀ (f : Nat) (I : am_I) (a m v : Nat), n - (q + m) = f → RM I b n a → q + m ≤ n → (∀ i, i < m → isLt (b (q + i)) = true) → ((m ≤ 6 → v = wcode b q m) ∧ (6 < m → v = 0)) →
    P (.inl (some (.int (wv b q (ltF b f (q + m))))), (am_SH, I, J, Pf), 0, 0) → am_go none (d + 1) 198 (14, [some (.ref 163), some (.int (ni v)), some (.int (ni m)), some (.int (ni (q + m)))], [], (am_SH, I, J, Pf), 0, 0) P := by
  have fin : ∀ (I : am_I) (m v : Nat), m ≤ 600 → ((m ≤ 6 → v = wcode b q m) ∧ (6 < m → v = 0)) → P (.inl (some (.int (wv b q (q + m)))), (am_SH, I, J, Pf), 0, 0) → (if ni m ≤ 6 then P (.inl (some (.int (ni v))), (am_SH, I, J, Pf), 0, 0) else P (.inl (some (.int 0)), (am_SH, I, J, Pf), 0, 0)) := by
    intro I m v h6 hv kk
    unfold wv at kk
    rw [show q + m - q = m by omega] at kk
    by_cases c : m ≤ 6
    · rw [if_pos c] at kk
      rw [if_pos ((lle 6 (by omega) (by omega)).mpr c), hv.1 c]
      exact kk
    · rw [if_neg c] at kk
      rw [if_neg (fun z => c ((lle 6 (by omega) (by omega)).mp z))]
      exact kk
  intro f
  induction f with
  | zero =>
    intro I a m v hf h hm hL hv kk
    obtain ⟨h1, h2, h3, h4, h5⟩ := h
    refine v198_14 hp ?_
    rw [h2, if_pos ((ni_le (by omega) (by omega)).mpr (by omega))]
    exact fin I m v (by omega) hv kk
  | succ f ih =>
    intro I a m v hf h hm hL hv kk
    have hR := h
    obtain ⟨h1, h2, h3, h4, h5⟩ := h
    refine v198_14 hp ?_
    rw [h2, if_neg (fun z => absurd ((ni_le (by omega) (by omega)).mp z) (by omega)), h1, ni_nat (by omega)]
    refine ⟨ni_in (by omega) (by omega), ?_⟩
    by_cases hl : isLt (b (q + m)) = true
    · obtain ⟨c1, c2⟩ := isLt_d.mp hl
      have e : ltF b (f + 1) (q + m) = ltF b f (q + (m + 1)) := if_pos hl
      rw [e] at kk
      rw [if_neg c1, if_neg c2]
      have hL2 : ∀ i, i < m + 1 → isLt (b (q + i)) = true := by
        intro i hi
        by_cases h9 : i = m
        · subst h9; exact hl
        · exact hL i (by omega)
      obtain ⟨c, hc, k1, k2⟩ := isLt_ni hl
      by_cases c6 : 6 ≤ m
      · rw [if_pos ((gle 6 (by omega) (by omega)).mpr c6), ni_1, ni_add, ni_add]
        exact ih I a (m + 1) 0 (by omega) hR (by omega) hL2 ⟨fun z => absurd z (by omega), fun _ => rfl⟩ kk
      · rw [if_neg (fun z => c6 ((gle 6 (by omega) (by omega)).mp z))]
        refine ⟨ni_in (by omega) (by omega), ?_⟩
        have hv1 := hv.1 (by omega)
        have hlt := wcode_lt m hL
        have h32 : 32 ^ m ≤ 32 ^ 5 := Nat.pow_le_pow_right (by omega) (by omega)
        have h33 : 32 ^ 5 = 33554432 := by decide
        rw [hc, show ni c - 96 = ni (c - 96) from ni_sub (b := 96) (by omega), ni_shl5 (by omega) (by omega), ni_1, ni_add, ni_add]
        refine ih I a (m + 1) _ (by omega) hR (by omega) hL2 ⟨fun _ => ?_, fun z => absurd z (by omega)⟩ kk
        unfold wcode
        rw [hc, ni_nat (by omega), hv1]
    · have e : ltF b (f + 1) (q + m) = q + m := if_neg hl
      rw [e] at kk
      have k := fin I m v (by omega) hv kk
      by_cases c1 : b (q + m) < 97
      · rw [if_pos c1]; exact k
      · by_cases c2 : 122 < b (q + m)
        · rw [if_neg c1, if_pos c2]; exact k
        · exact absurd (isLt_d.mpr ⟨c1, c2⟩) hl
variable {I : am_I} {a : Nat}
/-- the place behind a name -/
def mNE (b : Nat → Int32) (n a : Nat) : Nat := ltF b (n - rsk b n a) (rsk b n a)
theorem sr_name (hp : am_PF Pf) (h : RM I b n a) (kk : RM (am_u I 163 4 (ni (rsk b n a))) b n (rsk b n a) → P (.inl (some (.int (wv b (rsk b n a) (mNE b n a)))), (am_SH, am_u I 163 4 (ni (rsk b n a)), J, Pf), 0, 0)) : am_mth (d + 3) 198 [.ref 163] (am_SH, I, J, Pf) P := by
  have hq := rsk_le (b := b) h.2.2.2.1
  refine am_mth_of rfl rfl (v198_0 hp (sr_here hp h (am_back (v198_4 hp ?_))))
  rw [am_u_same]
  have := rr_name (d := d + 1) (P := P) (J := J) hp (q := rsk b n a) (n - rsk b n a) (am_u I 163 4 (ni (rsk b n a))) (rsk b n a) 0 0 rfl (h.at hq.2) hq.2 (fun i hi => absurd hi (by omega)) ⟨fun _ => rfl, fun _ => rfl⟩ (kk (h.at hq.2))
  exact this
theorem rr_pass (hp : am_PF Pf) : ∀ (f : Nat) (I : am_I) (a : Nat), n - a = f → RM I b n a → (RM (am_u I 163 4 (ni (ltF b f a))) b n (ltF b f a) → P (.inl none, (am_SH, am_u I 163 4 (ni (ltF b f a)), J, Pf), 0, 0)) → am_go none (d + 1) 200 (0, [some (.ref 163)], [], (am_SH, I, J, Pf), 0, 0) P := by
  intro f
  induction f with
  | zero =>
    intro I a hf h kk
    have hR := h
    obtain ⟨h1, h2, h3, h4, h5⟩ := h
    rw [show ltF b 0 a = a from rfl, am_u_self h3] at kk
    refine v200_0 hp ?_
    rw [h2, h3, if_pos ((ni_le (by omega) (by omega)).mpr (by omega))]
    exact kk hR
  | succ f ih =>
    intro I a hf h kk
    have hR := h
    obtain ⟨h1, h2, h3, h4, h5⟩ := h
    refine v200_0 hp ?_
    rw [h2, h3, if_neg (fun z => absurd ((ni_le (by omega) (by omega)).mp z) (by omega)), h1, ni_nat (by omega)]
    refine ⟨ni_in (by omega) (by omega), ?_⟩
    by_cases hl : isLt (b a) = true
    · obtain ⟨c1, c2⟩ := isLt_d.mp hl
      rw [show ltF b (f + 1) a = ltF b f (a + 1) from if_pos hl] at kk
      rw [if_neg c1, if_neg c2, ni_1, ni_add]
      refine ih _ (a + 1) (by omega) (hR.at (by omega)) ?_
      rw [am_u_u]
      exact kk
    · rw [show ltF b (f + 1) a = a from if_neg hl, am_u_self h3] at kk
      by_cases c1 : b a < 97
      · rw [if_pos c1]; exact kk hR
      · by_cases c2 : 122 < b a
        · rw [if_neg c1, if_pos c2]; exact kk hR
        · exact absurd (isLt_d.mpr ⟨c1, c2⟩) hl
theorem sr_pass (hp : am_PF Pf) (h : RM I b n a) (kk : RM (am_u I 163 4 (ni (ltF b (n - a) a))) b n (ltF b (n - a) a) → P (.inl none, (am_SH, am_u I 163 4 (ni (ltF b (n - a) a)), J, Pf), 0, 0)) : am_mth (d + 2) 200 [.ref 163] (am_SH, I, J, Pf) P :=
  am_mth_of rfl rfl (rr_pass hp _ I a rfl h kk)
theorem rr_of (hp : am_PF Pf) {x : Nat} (hx : am_strq x = true) (hx21 : x < 21) : ∀ (f k : Nat), (am_sb (x - 2)).length - k = f → k ≤ (am_sb (x - 2)).length → P (.inl (some (.int (ofc x))), (am_SH, I, J, Pf), 0, 0) → am_go none (d + 4) 199 (4, [some (.retAddr x), some (.int (ni (wcode (fun i => (am_sb (x - 2)).getD i 0) 0 k))), some (.int (ni k))], [], (am_SH, I, J, Pf), 0, 0) P := by
  have hq := tx_q hx
  obtain ⟨⟨h6, h1⟩, hL⟩ := tx_w1 hx21 hq.1
  intro f
  induction f with
  | zero =>
    intro k hf hk kk
    have e : k = (am_sb (x - 2)).length := by omega
    refine v199_4 hp hx (sp_length hx (am_back (v199_9 hp hx ?_)))
    rw [if_pos ((ni_le (by omega) (by omega)).mpr (by omega)), e]
    exact kk
  | succ f ih =>
    intro k hf hk kk
    refine v199_4 hp hx (sp_length hx (am_back (v199_9 hp hx ?_)))
    rw [if_neg (fun z => absurd ((ni_le (by omega) (by omega)).mp z) (by omega))]
    refine sp_charAt hx (by omega) (am_back (v199_20 hp hx ?_))
    have e := of_step (t := am_sb (x - 2)) (k := k) ⟨by omega, h6⟩ hL
    rw [e, ni_1, ni_add]
    exact ih (k + 1) (by omega) (by omega) kk
theorem sr_of (hp : am_PF Pf) {x : Nat} (hx : am_strq x = true) (hx21 : x < 21) (kk : P (.inl (some (.int (ofc x))), (am_SH, I, J, Pf), 0, 0)) : am_mth (d + 5) 199 [.retAddr x] (am_SH, I, J, Pf) P :=
  am_mth_of rfl rfl (v199_0 hp hx (rr_of hp hx hx21 _ 0 rfl (Nat.zero_le _) kk))
/-- which clause a name tells (the reference's number) -/
def mnyI (w : Int32) : Int32 := if w = ofc 2 then 0 else if w = ofc 3 then 1 else if w = ofc 4 then 1 else if w = ofc 5 then 2 else if w = ofc 6 then 3 else if w = ofc 7 then 4 else if w = ofc 8 then 5 else -1
theorem sr_many (hp : am_PF Pf) {w : Int32} (kk : P (.inl (some (.int (mnyI w))), (am_SH, I, J, Pf), 0, 0)) : am_mth (d + 6) 222 [.int w] (am_SH, I, J, Pf) P := by
  unfold mnyI at kk
  refine am_mth_of rfl rfl (v222_0 hp (sr_of (d := d) hp rfl (by decide) (am_back (v222_7 hp ?_))))
  split at kk
  · rename_i c; rw [if_pos c]; exact kk
  rename_i c; rw [if_neg c]
  refine sr_of (d := d) hp rfl (by decide) (am_back (v222_21 hp ?_))
  split at kk
  · rename_i c; rw [if_pos c]; exact kk
  rename_i c; rw [if_neg c]
  refine sr_of (d := d) hp rfl (by decide) (am_back (v222_31 hp ?_))
  split at kk
  · rename_i c; rw [if_pos c]; exact kk
  rename_i c; rw [if_neg c]
  refine sr_of (d := d) hp rfl (by decide) (am_back (v222_45 hp ?_))
  split at kk
  · rename_i c; rw [if_pos c]; exact kk
  rename_i c; rw [if_neg c]
  refine sr_of (d := d) hp rfl (by decide) (am_back (v222_59 hp ?_))
  split at kk
  · rename_i c; rw [if_pos c]; exact kk
  rename_i c; rw [if_neg c]
  refine sr_of (d := d) hp rfl (by decide) (am_back (v222_73 hp ?_))
  split at kk
  · rename_i c; rw [if_pos c]; exact kk
  rename_i c; rw [if_neg c]
  refine sr_of (d := d) hp rfl (by decide) (am_back (v222_87 hp ?_))
  split at kk
  · rename_i c; rw [if_pos c]; exact kk
  rename_i c; rw [if_neg c]
  exact kk
def stpI (w : Int32) : Int32 := if w = ofc 17 then 0 else if w = ofc 18 then 1 else if w = ofc 19 then 2 else if w = ofc 20 then 3 else -1
theorem sr_step (hp : am_PF Pf) {w : Int32} (kk : P (.inl (some (.int (stpI w))), (am_SH, I, J, Pf), 0, 0)) : am_mth (d + 6) 244 [.int w] (am_SH, I, J, Pf) P := by
  unfold stpI at kk
  refine am_mth_of rfl rfl (v244_0 hp (sr_of (d := d) hp rfl (by decide) (am_back (v244_7 hp ?_))))
  split at kk
  · rename_i c; rw [if_pos c]; exact kk
  rename_i c; rw [if_neg c]
  refine sr_of (d := d) hp rfl (by decide) (am_back (v244_21 hp ?_))
  split at kk
  · rename_i c; rw [if_pos c]; exact kk
  rename_i c; rw [if_neg c]
  refine sr_of (d := d) hp rfl (by decide) (am_back (v244_35 hp ?_))
  split at kk
  · rename_i c; rw [if_pos c]; exact kk
  rename_i c; rw [if_neg c]
  refine sr_of (d := d) hp rfl (by decide) (am_back (v244_49 hp ?_))
  split at kk
  · rename_i c; rw [if_pos c]; exact kk
  rename_i c; rw [if_neg c]
  exact kk
def fctI (w : Int32) : Int32 := if w = ofc 11 then 0 else if w = ofc 12 then 1 else if w = ofc 13 then 2 else if w = ofc 14 then 3 else if w = ofc 15 then 4 else if w = ofc 16 then 5 else -1
theorem sr_fact (hp : am_PF Pf) (h : RM I b n a) (kk : RM (am_u I 163 4 (ni (rsk b n a))) b n (rsk b n a) → P (.inl (some (.int (fctI (wv b (rsk b n a) (mNE b n a))))), (am_SH, am_u I 163 4 (ni (rsk b n a)), J, Pf), 0, 0)) : am_mth (d + 6) 237 [.ref 163] (am_SH, I, J, Pf) P := by
  refine am_mth_of rfl rfl (v237_0 hp (sr_name (d := d + 2) hp h (fun hR => am_back (v237_4 hp rfl (sr_of (d := d) hp rfl (by decide) (am_back (v237_12 hp ?_)))))))
  have kk := kk hR
  unfold fctI at kk
  split at kk
  · rename_i c; rw [if_pos c]; exact kk
  rename_i c; rw [if_neg c]
  refine sr_of (d := d) hp rfl (by decide) (am_back (v237_26 hp ?_))
  split at kk
  · rename_i c; rw [if_pos c]; exact kk
  rename_i c; rw [if_neg c]
  refine sr_of (d := d) hp rfl (by decide) (am_back (v237_40 hp ?_))
  split at kk
  · rename_i c; rw [if_pos c]; exact kk
  rename_i c; rw [if_neg c]
  refine sr_of (d := d) hp rfl (by decide) (am_back (v237_54 hp ?_))
  split at kk
  · rename_i c; rw [if_pos c]; exact kk
  rename_i c; rw [if_neg c]
  refine sr_of (d := d) hp rfl (by decide) (am_back (v237_68 hp ?_))
  split at kk
  · rename_i c; rw [if_pos c]; exact kk
  rename_i c; rw [if_neg c]
  refine sr_of (d := d) hp rfl (by decide) (am_back (v237_82 hp ?_))
  split at kk
  · rename_i c; rw [if_pos c]; exact kk
  rename_i c; rw [if_neg c]
  exact kk
end RR4
