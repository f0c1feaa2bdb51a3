/-! The reference's answers of classes, productions, sorts -/
def inC (x : Int32) (n : Nat) : Prop := ∃ a, x = ni a ∧ a < n
theorem inC_lo {x : Int32} {n : Nat} (hn : n < 2147483648) (h0 : x < 0) : ¬ inC x n := fun ⟨a, h1, h2⟩ => by
  rw [h1] at h0
  exact ni_ge0 (by omega) h0
theorem inC_of {x : Int32} {n : Nat} (hn : n < 2147483648) (h0 : ¬ x < 0) (h1 : ¬ ni n ≤ x) : inC x n := by
  obtain ⟨a, e, ha⟩ := inW_of hn h0 (fun z => h1 (Int32.le_of_lt z))
  subst e
  exact ⟨a, rfl, Nat.lt_of_not_le (fun z => h1 ((ni_le hn (by omega)).mpr z))⟩
theorem inC_hi {x : Int32} {n : Nat} (hn : n < 2147483648) (h0 : ni n ≤ x) : ¬ inC x n := fun ⟨a, h1, h2⟩ => by
  rw [h1] at h0
  have := (ni_le hn (by omega)).mp h0
  omega
theorem ni_m1lt {x : Int32} {n : Nat} (hn : n < 2147483648) (h0 : ¬ x < 0) : (ni n - 1 < x) ↔ ni n ≤ x := by
  cases n with
  | zero =>
    have e : ni 0 - 1 = -1 := by decide
    rw [e]
    rw [Int32.lt_iff_toInt_lt] at h0 ⊢
    rw [Int32.le_iff_toInt_le, ni_int (by omega)]
    have : (0 : Int32).toInt = 0 := by decide
    have : (-1 : Int32).toInt = -1 := by decide
    omega
  | succ n =>
    rw [show ni (n + 1) - 1 = ni n from ni_sub (a := n + 1) (b := 1) (by omega), Int32.lt_iff_toInt_lt, Int32.le_iff_toInt_le, ni_int (by omega), ni_int hn]
    omega
noncomputable def qC (n m : Nat) (f : Nat → Nat → Int32) (x1 x2 : Int32) : Sum Nat Int32 := cif (inC x1 n) (cif (inW x2 m) (.inr (f x1.toNatClampNeg x2.toNatClampNeg)) (.inl 1)) (.inl 0)
theorem qC_t {n m a c : Nat} {f : Nat → Nat → Int32} (h1 : a < n) (hn : n < 2147483648) (h2 : c ≤ m) (hm : m < 2147483648) : qC n m f (ni a) (ni c) = .inr (f a c) := by
  unfold qC
  rw [cif_t ⟨a, rfl, h1⟩, cif_t ⟨c, rfl, h2⟩, ni_nat (by omega), ni_nat (by omega)]
theorem qC_1 {n m : Nat} {f : Nat → Nat → Int32} {x1 x2 : Int32} (h : inC x1 n) (h2 : ¬ inW x2 m) : qC n m f x1 x2 = .inl 1 := by
  unfold qC
  rw [cif_t h, cif_f h2]
theorem qC_0 {n m : Nat} {f : Nat → Nat → Int32} {x1 x2 : Int32} (h : ¬ inC x1 n) : qC n m f x1 x2 = .inl 0 := cif_f h
/-- what is told of a class -/
def aGr (w : Nat → Int32) (c x : Nat) : Int32 := if x = 0 then ni (cntN (wCls w c) 95) else if x = 1 then lsP (wCls w c) 95 else if x = 2 then gsP (wCls w c) 95 else ni (cntN (stX (wCls w c)) 95)
/-- a sign, told by its code -/
def inS (x : Int32) : Prop := ∃ k, x = ni (32 + k) ∧ k < 95
theorem inS_of {x : Int32} (h1 : ¬ x < 32) (h2 : ¬ (126 : Int32) < x) : inS x := by
  obtain ⟨a, e, ha⟩ := inW_of (x := x) (n := 126) (by omega) (fun z => h1 (Int32.lt_trans z (by decide))) h2
  subst e
  have : ¬ a < 32 := fun z => h1 ((llt 32 (by omega) (by omega)).mpr z)
  exact ⟨a - 32, by rw [show 32 + (a - 32) = a by omega], by omega⟩
theorem inS_lo {x : Int32} (h : x < 32) : ¬ inS x := fun ⟨k, e, hk⟩ => by
  subst e
  have := (llt 32 (by omega) (by omega)).mp h
  omega
theorem inS_hi {x : Int32} (h : (126 : Int32) < x) : ¬ inS x := fun ⟨k, e, hk⟩ => by
  subst e
  have := (glt 126 (by omega) (by omega)).mp h
  omega
theorem lt127 {x : Int32} : (126 : Int32) < x ↔ (127 : Int32) ≤ x := by
  rw [Int32.lt_iff_toInt_lt, Int32.le_iff_toInt_le]
  have : (126 : Int32).toInt = 126 := by decide
  have : (127 : Int32).toInt = 127 := by decide
  omega
noncomputable def qCS (n : Nat) (f : Nat → Nat → Int32) (x1 x2 : Int32) : Sum Nat Int32 := cif (inC x1 n) (cif (inS x2) (.inr (f x1.toNatClampNeg (x2.toNatClampNeg - 32))) (.inl 1)) (.inl 0)
theorem qCS_t {n a k : Nat} {f : Nat → Nat → Int32} (h1 : a < n) (hn : n < 2147483648) (h2 : k < 95) : qCS n f (ni a) (ni (32 + k)) = .inr (f a k) := by
  unfold qCS
  rw [cif_t ⟨a, rfl, h1⟩, cif_t ⟨k, rfl, h2⟩, ni_nat (by omega), ni_nat (by omega), Nat.add_sub_cancel_left]
theorem qCS_1 {n : Nat} {f : Nat → Nat → Int32} {x1 x2 : Int32} (h : inC x1 n) (h2 : ¬ inS x2) : qCS n f x1 x2 = .inl 1 := by
  unfold qCS
  rw [cif_t h, cif_f h2]
theorem qCS_0 {n : Nat} {f : Nat → Nat → Int32} {x1 x2 : Int32} (h : ¬ inC x1 n) : qCS n f x1 x2 = .inl 0 := cif_f h
def aHo (w : Nat → Int32) (c k : Nat) : Int32 := if wCls w c k = true then 1 else 0
section RCL
variable {P : am_O → Prop} {J : am_J} {Pf : am_R} {T : TX} {w : Nat → Int32}
theorem rTh2 {I : am_I} {c : Int32} {E : Nat} {I1 : am_I} (h : I1 = am_u I 163 0 0) : am_u (am_u I1 163 0 c) 164 E (I1 164 E + 1) = rTh I c E := by
  subst h
  exact rTh_eq
theorem sr_cls (hp : am_PF Pf) {I : am_I} {n d : Nat} (hn : n ≤ 8) (h0 : I 163 0 = 0) (hc : I 167 0 = ni n) {x1 : Int32} (kk1 : ∀ c, x1 = ni c → c < n → P (.inl (some (.int 1)), (am_SH, I, J, Pf), 0, 0)) (kk0 : ¬ inC x1 n → P (.inl (some (.int 0)), (am_SH, am_u (am_u I 163 0 1) 164 0 (I 164 0 + 1), J, Pf), 0, 0)) : am_mth (d + 2) 275 [.ref 163, .int x1] (am_SH, I, J, Pf) P := by
  refine am_mth_of rfl rfl (v275_0 hp ?_)
  rw [if_pos h0, hc]
  by_cases c1 : x1 < 0
  · rw [if_pos c1]; exact kk0 (inC_lo (by omega) c1)
  rw [if_neg c1]
  by_cases c2 : ni n - 1 < x1
  · rw [if_pos c2]; exact kk0 (inC_hi (by omega) ((ni_m1lt (by omega) c1).mp c2))
  rw [if_neg c2, if_pos h0]
  obtain ⟨c, h1, h2⟩ := inC_of (by omega) c1 (fun z => c2 ((ni_m1lt (by omega) c1).mpr z))
  exact kk1 c h1 h2
theorem rQ.z0 {I : am_I} {v : Int32} (hQ : rQ I w T) (kk : ∀ I', rQ I' w T → rQf I I' → I' 163 0 = 0 → P (.inl (some (.int v)), (am_SH, I', J, Pf), 0, 0)) : P (.inl (some (.int v)), (am_SH, am_u I 163 0 0, J, Pf), 0, 0) := kk _ hQ.z (fun o k e1 e2 e3 e4 => am_u_nq (by omega)) am_u_same
theorem sr_group (hp : am_PF Pf) (hG : WG w) {I : am_I} (hQ : rQ I w T) {D : Nat} (hD : 10 ≤ D) {x1 x2 : Int32} (kk : rA P J Pf w T I cd2 (qC (wN w 0) 3 (aGr w) x1 x2)) : am_mth D 276 [.ref 163, .int x1, .int x2] (am_SH, I, J, Pf) P := by
  obtain ⟨D', rfl⟩ : ∃ D', D = D' + 4 := ⟨D - 4, by omega⟩
  obtain ⟨⟨w0, w0'⟩, -⟩ := id hG.1
  have hz : (am_u I 163 0 0) 163 0 = 0 := am_u_same
  have h167 : ∀ y, (am_u I 163 0 0) 167 y = w y := fun y => (am_u_nq (by omega)).trans (congrFun hQ.1 y)
  refine am_mth_of rfl rfl (v276_0 hp ?_)
  refine sr_cls (d := D' + 1) hp w0' hz ((h167 0).trans w0) (fun c hc hcn => am_back (v276_10 hp ?_)) (fun hb => am_back (v276_10 hp ?_))
  · rw [if_neg (by decide), if_pos hz]
    by_cases c1 : x2 < 0
    · rw [if_pos c1, rTh2 rfl]
      rw [qC_1 ⟨c, hc, hcn⟩ (inW_lo (by omega) c1)] at kk
      exact kk
    rw [if_neg c1]
    by_cases c2 : (3 : Int32) < x2
    · rw [if_pos c2, rTh2 rfl]
      rw [qC_1 ⟨c, hc, hcn⟩ (inW_hi (n := 3) (by omega) c2)] at kk
      exact kk
    rw [if_neg c2]
    obtain ⟨x, hx, hx3⟩ := inW_of (n := 3) (by omega) c1 c2
    subst hc hx
    rw [qC_t hcn (by omega) hx3 (by omega)] at kk
    have LP : ∀ (m k : Nat), 95 - k = m → k ≤ 95 → am_go none (D' + 3) 276 (45, [some (.ref 163), some (.int (ni c)), some (.int (ni x)), some (.int (ni (cntN (wCls w c) k))), some (.int (lsP (wCls w c) k)), some (.int (gsP (wCls w c) k)), some (.int (ni (cntN (stX (wCls w c)) k))), some (.int (ni (32 + k)))], [], (am_SH, am_u I 163 0 0, J, Pf), 0, 0) P := by
      intro m
      induction m with
      | zero =>
        intro k hm hk
        have : k = 95 := by omega
        subst this
        have hkk := hQ.z0 kk
        unfold aGr at hkk
        refine v276_45 hp ?_
        rw [if_pos (show (127 : Int32) ≤ ni (32 + 95) from by decide)]
        have x4 : x = 0 ∨ x = 1 ∨ x = 2 ∨ x = 3 := by omega
        rcases x4 with rfl | rfl | rfl | rfl
        · rw [if_pos rfl] at hkk
          rw [if_pos (by decide)]; exact hkk
        · rw [if_neg (by decide), if_pos rfl] at hkk
          rw [if_neg (by decide), if_pos (by decide)]; exact hkk
        · rw [if_neg (by decide), if_neg (by decide), if_pos rfl] at hkk
          rw [if_neg (by decide), if_neg (by decide), if_pos (by decide)]; exact hkk
        · rw [if_neg (by decide), if_neg (by decide), if_neg (by decide)] at hkk
          rw [if_neg (by decide), if_neg (by decide), if_neg (by decide)]; exact hkk
      | succ m ih =>
        intro k hm hk
        have nx := ih (k + 1) (by omega) (by omega)
        have hx := ho_x (w := w) (k := c) (c := k) (by omega) (by omega)
        rw [Nat.add_comm k 32] at hx
        rw [show cntN (wCls w c) (k + 1) = cntN (wCls w c) k + (if wCls w c k = true then 1 else 0) from rfl, show cntN (stX (wCls w c)) (k + 1) = cntN (stX (wCls w c)) k + (if stX (wCls w c) k = true then 1 else 0) from rfl, show lsP (wCls w c) (k + 1) = (if lsP (wCls w c) k = -1 ∧ wCls w c k = true then ni (32 + k) else lsP (wCls w c) k) from rfl, show gsP (wCls w c) (k + 1) = (if wCls w c k = true then ni (32 + k) else gsP (wCls w c) k) from rfl, show 32 + (k + 1) = 32 + k + 1 by omega] at nx
        refine v276_45 hp ?_
        rw [if_neg (fun z => absurd ((gle 127 (by omega) (by omega)).mp z) (by omega)), h167]
        refine ⟨hx.1, ?_⟩
        rw [ni_p1, ni_p1]
        by_cases cb : wCls w c k = true
        · rw [if_pos (hx.2.mpr cb)]
          rw [if_pos cb, if_pos cb] at nx
          by_cases ce : gsP (wCls w c) k = ni (32 + k) - 1
          · have e2 : stX (wCls w c) k = false := by unfold stX; rw [gsP_prev (by omega) |>.mp ce, cb]; rfl
            rw [e2, if_neg (show ¬ (false = true) by decide)] at nx
            by_cases cl : lsP (wCls w c) k = -1
            · rw [if_pos ⟨cl, cb⟩] at nx
              rw [if_pos cl, if_pos ce, Int32.add_zero]; exact nx
            · rw [if_neg (fun z => cl z.1)] at nx
              rw [if_neg cl, if_pos ce, Int32.add_zero]; exact nx
          · have e2 : stX (wCls w c) k = true := by
              unfold stX
              have : (decide (0 < k) && wCls w c (k - 1)) = false := by
                cases q : (decide (0 < k) && wCls w c (k - 1))
                · rfl
                · exact absurd (gsP_prev (by omega) |>.mpr q) ce
              rw [this, cb]; rfl
            rw [e2, if_pos (show true = true from rfl)] at nx
            by_cases cl : lsP (wCls w c) k = -1
            · rw [if_pos ⟨cl, cb⟩] at nx
              rw [if_pos cl, if_neg ce, ni_p1]; exact nx
            · rw [if_neg (fun z => cl z.1)] at nx
              rw [if_neg cl, if_neg ce, ni_p1]; exact nx
        · rw [if_neg (fun z => cb (hx.2.mp z))]
          have e2 : stX (wCls w c) k = false := by
            unfold stX
            cases q : wCls w c k
            · rfl
            · exact absurd q cb
          rw [if_neg cb, if_neg cb, e2, if_neg (show ¬ (false = true) by decide), if_neg (fun z => cb z.2)] at nx
          exact nx
    exact LP _ 0 rfl (Nat.zero_le _)
  · rw [if_pos rfl, rTh2 rfl]
    rw [qC_0 hb] at kk
    exact kk
theorem sr_holds (hp : am_PF Pf) (hG : WG w) {I : am_I} (hQ : rQ I w T) {D : Nat} (hD : 10 ≤ D) {x1 x2 : Int32} (kk : rA P J Pf w T I cd2 (qCS (wN w 0) (aHo w) x1 x2)) : am_mth D 277 [.ref 163, .int x1, .int x2] (am_SH, I, J, Pf) P := by
  obtain ⟨D', rfl⟩ : ∃ D', D = D' + 4 := ⟨D - 4, by omega⟩
  obtain ⟨⟨w0, w0'⟩, -⟩ := id hG.1
  have hz : (am_u I 163 0 0) 163 0 = 0 := am_u_same
  have h167 : ∀ y, (am_u I 163 0 0) 167 y = w y := fun y => (am_u_nq (by omega)).trans (congrFun hQ.1 y)
  refine am_mth_of rfl rfl (v277_0 hp ?_)
  refine sr_cls (d := D' + 1) hp w0' hz ((h167 0).trans w0) (fun c hc hcn => am_back (v277_10 hp ?_)) (fun hb => am_back (v277_10 hp ?_))
  · rw [if_neg (by decide), if_pos hz]
    by_cases c1 : x2 < 32
    · rw [if_pos c1, rTh2 rfl]
      rw [qCS_1 ⟨c, hc, hcn⟩ (inS_lo c1)] at kk
      exact kk
    rw [if_neg c1]
    by_cases c2 : (127 : Int32) ≤ x2
    · rw [if_pos c2, rTh2 rfl]
      rw [qCS_1 ⟨c, hc, hcn⟩ (inS_hi (lt127.mpr c2))] at kk
      exact kk
    rw [if_neg c2, if_pos hz]
    obtain ⟨k, hk, hk95⟩ := inS_of c1 (fun z => c2 (lt127.mp z))
    subst hc hk
    rw [qCS_t hcn (by omega) hk95] at kk
    have hkk := hQ.z0 kk
    have hx := ho_x (w := w) (k := c) (c := k) (by omega) (by omega)
    rw [Nat.add_comm k 32] at hx
    rw [h167]
    refine ⟨hx.1, ?_⟩
    unfold aHo at hkk
    by_cases cb : wCls w c k = true
    · rw [if_pos cb] at hkk
      rw [if_pos (hx.2.mpr cb)]; exact hkk
    · rw [if_neg cb] at hkk
      rw [if_neg (fun z => cb (hx.2.mp z))]; exact hkk
  · rw [if_pos rfl, rTh2 rfl]
    rw [qCS_0 hb] at kk
    exact kk
theorem sr_prodq (hp : am_PF Pf) (hG : WG w) {I : am_I} (hQ : rQ I w T) {D : Nat} (hD : 10 ≤ D) {x1 x2 : Int32} (kk : rA P J Pf w T I cd2 (qC (wN w 1) 2 (fun p x => w (32 + 3 * p + x)) x1 x2)) : am_mth D 279 [.ref 163, .int x1, .int x2] (am_SH, I, J, Pf) P := by
  obtain ⟨D', rfl⟩ : ∃ D', D = D' + 4 := ⟨D - 4, by omega⟩
  obtain ⟨-, ⟨w1, w1'⟩, -⟩ := id hG.1
  have h167 : ∀ y, I 167 y = w y := congrFun hQ.1
  refine am_mth_of rfl rfl (v279_0 hp ?_)
  rw [h167, w1]
  by_cases c1 : x1 < 0
  · rw [if_pos c1]
    rw [qC_0 (inC_lo (by omega) c1)] at kk
    exact kk
  rw [if_neg c1]
  by_cases c2 : ni (wN w 1) - 1 < x1
  · rw [if_pos c2]
    rw [qC_0 (inC_hi (by omega) ((ni_m1lt (by omega) c1).mp c2))] at kk
    exact kk
  rw [if_neg c2]
  have hin := inC_of (by omega) c1 (fun z => c2 ((ni_m1lt (n := wN w 1) (by omega) c1).mpr z))
  by_cases c3 : x2 < 0
  · rw [if_pos c3]
    rw [qC_1 hin (inW_lo (by omega) c3)] at kk
    exact kk
  rw [if_neg c3]
  by_cases c4 : (2 : Int32) < x2
  · rw [if_pos c4]
    rw [qC_1 hin (inW_hi (n := 2) (by omega) c4)] at kk
    exact kk
  rw [if_neg c4]
  obtain ⟨p, hp1, hpn⟩ := hin
  obtain ⟨x, hx, hx2⟩ := inW_of (n := 2) (by omega) c3 c4
  subst hp1 hx
  rw [qC_t hpn (by omega) hx2 (by omega)] at kk
  rw [show (32 : Int32) + 3 * ni p + ni x = ni (32 + 3 * p + x) by rw [show (3 : Int32) = ni 3 from rfl, show (32 : Int32) = ni 32 from rfl, ni_mul, ni_add, ni_add], show (ni (32 + 3 * p + x)).toNatClampNeg = 32 + 3 * p + x from ni_nat (by omega), h167]
  exact ⟨ni_in (by omega) (by omega), hQ.z0 kk⟩
end RCL
