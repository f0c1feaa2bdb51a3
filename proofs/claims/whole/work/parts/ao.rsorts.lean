/-! The reference's answers of sorts, places, two classes; what is told -/
theorem cntN_z {X : Nat → Bool} : ∀ n, cntN X n = 0 ↔ ∀ k, k < n → X k = false
  | 0 => ⟨fun _ k h => absurd h (by omega), fun _ => rfl⟩
  | n + 1 => by
    have ih := cntN_z (X := X) n
    have e : cntN X (n + 1) = cntN X n + (if X n = true then 1 else 0) := rfl
    rw [e]
    constructor
    · intro h k hk
      by_cases c : k = n
      · subst c
        cases q : X k
        · rfl
        · rw [q, if_pos (by decide)] at h; omega
      · exact ih.mp (by omega) k (by omega)
    · intro h
      rw [h n (by omega), if_neg (by decide), ih.mpr (fun k hk => h k (by omega))]
/-- two classes, one beside the other -/
noncomputable def aBs (f g : Nat → Bool) : Int32 := cif (∀ k, k < 95 → f k = g k) 1 (cif (∃ k, k < 95 ∧ f k = true ∧ g k = true) (cif (∀ k, k < 95 → f k = true → g k = true) 2 (cif (∀ k, k < 95 → g k = true → f k = true) 3 4)) 0)
noncomputable def qBs (n : Nat) (f : Nat → Nat → Int32) (x1 x2 : Int32) : Sum Nat Int32 := cif (inC x1 n ∧ inC x2 n) (.inr (f x1.toNatClampNeg x2.toNatClampNeg)) (.inl 0)
theorem qBs_t {n a c : Nat} {f : Nat → Nat → Int32} (h1 : a < n) (h2 : c < n) (hn : n < 2147483648) : qBs n f (ni a) (ni c) = .inr (f a c) := by
  unfold qBs
  rw [cif_t ⟨⟨a, rfl, h1⟩, ⟨c, rfl, h2⟩⟩, ni_nat (by omega), ni_nat (by omega)]
theorem qBs_f {n : Nat} {f : Nat → Nat → Int32} {x1 x2 : Int32} (h : ¬ (inC x1 n ∧ inC x2 n)) : qBs n f x1 x2 = .inl 0 := cif_f h
theorem bg_x {I : am_I} {B : Nat → Nat → Bool} (h : bgI I B) {s k : Nat} (h8 : s < 8) (hk : k < 95) : am_in (3 * ni s + (ni (32 + k) - 32) / 32) 24 = true ∧ ((((I 191 (3 * ni s + (ni (32 + k) - 32) / 32).toNatClampNeg) >>> (((ni (32 + k) - 32) - (ni (32 + k) - 32) / 32 * 32) &&& 31)) &&& 1) = 1 ↔ B s k = true) := by
  have e1 : (3 : Int32) * ni s + (ni (32 + k) - 32) / 32 = ni (3 * s + k / 32) := by
    rw [show (3 : Int32) = ni 3 from rfl, show (32 : Int32) = ni 32 from rfl, ni_sub (by omega), Nat.add_sub_cancel_left, ni_div (by omega) (by omega), ni_mul, ni_add]
  have e2 : (ni (32 + k) - 32) - (ni (32 + k) - 32) / 32 * 32 = ni (k % 32) := by
    rw [Nat.add_comm]; exact ho_r hk
  rw [e1, e2, show (ni (3 * s + k / 32)).toNatClampNeg = 3 * s + k / 32 from ni_nat (by omega)]
  refine ⟨ni_in (by omega) (by omega), ?_⟩
  rw [bI_sh (by omega), ← h s h8 k hk]
  unfold r3
  by_cases c1 : k < 32
  · rw [if_pos c1, show 3 * s + k / 32 = 3 * s by omega, show k % 32 = k by omega]
  · rw [if_neg c1]
    by_cases c2 : k < 64
    · rw [if_pos c2, show 3 * s + k / 32 = 3 * s + 1 by omega, show k % 32 = k - 32 by omega]
    · rw [if_neg c2, show 3 * s + k / 32 = 3 * s + 2 by omega, show k % 32 = k - 64 by omega]
section RSQ
variable {P : am_O → Prop} {J : am_J} {Pf : am_R} {T : TX} {w : Nat → Int32}
theorem sr_beside (hp : am_PF Pf) (hG : WG w) {I : am_I} (hQ : rQ I w T) {D : Nat} (hD : 10 ≤ D) {x1 x2 : Int32} (kk : rA P J Pf w T I cd1 (qBs (wN w 0) (fun a c => aBs (wCls w a) (wCls w c)) x1 x2)) : am_mth D 278 [.ref 163, .int x1, .int x2] (am_SH, I, J, Pf) P := by
  obtain ⟨D', rfl⟩ : ∃ D', D = D' + 4 := ⟨D - 4, by omega⟩
  obtain ⟨⟨w0, w0'⟩, -⟩ := id hG.1
  have hz : (am_u I 163 0 0) 163 0 = 0 := am_u_same
  have h167 : ∀ y, (am_u I 163 0 0) 167 y = w y := fun y => (am_u_nq (by omega)).trans (congrFun hQ.1 y)
  refine am_mth_of rfl rfl (v278_0 hp ?_)
  refine sr_cls (d := D' + 1) hp w0' hz ((h167 0).trans w0) (fun a ha han => am_back (v278_10 hp ?_)) (fun hb => am_back (v278_10 hp ?_))
  · rw [if_neg (by decide)]
    refine sr_cls (d := D' + 1) hp w0' hz ((h167 0).trans w0) (fun c hc hcn => am_back (v278_18 hp ?_)) (fun hb => am_back (v278_18 hp ?_))
    · rw [if_neg (by decide)]
      subst ha hc
      rw [qBs_t han hcn (by omega)] at kk
      have hkk := hQ.z0 kk
      have LP : ∀ (m k : Nat) (l7 l8 : Option Value), 95 - k = m → k ≤ 95 → am_go none (D' + 3) 278 (35, [some (.ref 163), some (.int (ni a)), some (.int (ni c)), some (.int (ni (cntN (fun k => wCls w a k && wCls w c k) k))), some (.int (ni (cntN (fun k => wCls w a k && !wCls w c k) k))), some (.int (ni (cntN (fun k => !wCls w a k && wCls w c k) k))), some (.int (ni (32 + k))), l7, l8], [], (am_SH, am_u I 163 0 0, J, Pf), 0, 0) P := by
        intro m
        induction m with
        | zero =>
          intro k l7 l8 hm hk
          have : k = 95 := by omega
          subst this
          have zA := cntN_z (X := fun k => wCls w a k && !wCls w c k) 95
          have zB := cntN_z (X := fun k => !wCls w a k && wCls w c k) 95
          have zC := cntN_z (X := fun k => wCls w a k && wCls w c k) 95
          have lA := cntN_le (fun k => wCls w a k && !wCls w c k) 95
          have lB := cntN_le (fun k => !wCls w a k && wCls w c k) 95
          have lC := cntN_le (fun k => wCls w a k && wCls w c k) 95
          have tA : (∀ k, k < 95 → wCls w a k = true → wCls w c k = true) ↔ cntN (fun k => wCls w a k && !wCls w c k) 95 = 0 := by
            rw [zA]
            constructor
            · intro h k hk
              have := h k hk
              show (wCls w a k && !wCls w c k) = false
              cases q : wCls w a k <;> cases q2 : wCls w c k <;> simp_all
            · intro h k hk q
              have := h k hk
              cases q2 : wCls w c k <;> simp_all
          have tB : (∀ k, k < 95 → wCls w c k = true → wCls w a k = true) ↔ cntN (fun k => !wCls w a k && wCls w c k) 95 = 0 := by
            rw [zB]
            constructor
            · intro h k hk
              have := h k hk
              show (!wCls w a k && wCls w c k) = false
              cases q : wCls w a k <;> cases q2 : wCls w c k <;> simp_all
            · intro h k hk q
              have := h k hk
              cases q2 : wCls w a k <;> simp_all
          have tC : (∃ k, k < 95 ∧ wCls w a k = true ∧ wCls w c k = true) ↔ ¬ cntN (fun k => wCls w a k && wCls w c k) 95 = 0 := by
            rw [zC]
            constructor
            · rintro ⟨k, h1, h2, h3⟩ h
              have := h k h1
              simp_all
            · intro h
              refine Classical.byContradiction (fun hn => h (fun k hk => ?_))
              show (wCls w a k && wCls w c k) = false
              cases q : wCls w a k <;> cases q2 : wCls w c k <;> first | rfl | exact absurd ⟨k, hk, q, q2⟩ hn
          have tE : (∀ k, k < 95 → wCls w a k = wCls w c k) ↔ (cntN (fun k => wCls w a k && !wCls w c k) 95 + cntN (fun k => !wCls w a k && wCls w c k) 95 = 0) := by
            rw [show (cntN (fun k => wCls w a k && !wCls w c k) 95 + cntN (fun k => !wCls w a k && wCls w c k) 95 = 0) ↔ (cntN (fun k => wCls w a k && !wCls w c k) 95 = 0 ∧ cntN (fun k => !wCls w a k && wCls w c k) 95 = 0) by omega, ← tA, ← tB]
            constructor
            · intro h
              exact ⟨fun k hk q => by rw [← h k hk]; exact q, fun k hk q => by rw [h k hk]; exact q⟩
            · rintro ⟨h1, h2⟩ k hk
              have := h1 k hk
              have := h2 k hk
              cases q : wCls w a k <;> cases q2 : wCls w c k <;> simp_all
          unfold aBs at hkk
          clear zA zB zC
          generalize cntN (fun k => wCls w a k && !wCls w c k) 95 = A at *
          generalize cntN (fun k => !wCls w a k && wCls w c k) 95 = B at *
          generalize cntN (fun k => wCls w a k && wCls w c k) 95 = C at *
          refine v278_35 hp ?_
          rw [if_pos (show (127 : Int32) ≤ ni (32 + 95) from by decide), ni_add]
          by_cases c1 : A + B = 0
          · rw [cif_t (tE.mpr c1)] at hkk
            rw [if_pos ((leq 0 (by clear tA tB tC tE; omega) (by omega)).mpr c1)]; exact hkk
          · rw [cif_f (fun z => c1 (tE.mp z))] at hkk
            rw [if_neg (fun z => c1 ((leq 0 (by clear tA tB tC tE; omega) (by omega)).mp z))]
            by_cases c2 : C = 0
            · rw [cif_f (fun z => tC.mp z c2)] at hkk
              rw [if_pos ((leq 0 (by clear tA tB tC tE; omega) (by omega)).mpr c2)]; exact hkk
            · rw [cif_t (tC.mpr c2)] at hkk
              rw [if_neg (fun z => c2 ((leq 0 (by clear tA tB tC tE; omega) (by omega)).mp z))]
              by_cases c3 : A = 0
              · rw [cif_t (tA.mpr c3)] at hkk
                rw [if_pos ((leq 0 (by clear tA tB tC tE; omega) (by omega)).mpr c3)]; exact hkk
              · rw [cif_f (fun z => c3 (tA.mp z))] at hkk
                rw [if_neg (fun z => c3 ((leq 0 (by clear tA tB tC tE; omega) (by omega)).mp z))]
                by_cases c4 : B = 0
                · rw [cif_t (tB.mpr c4)] at hkk
                  rw [if_pos ((leq 0 (by clear tA tB tC tE; omega) (by omega)).mpr c4)]; exact hkk
                · rw [cif_f (fun z => c4 (tB.mp z))] at hkk
                  rw [if_neg (fun z => c4 ((leq 0 (by clear tA tB tC tE; omega) (by omega)).mp z))]; exact hkk
        | succ m ih =>
          intro k l7 l8 hm hk
          have nx := fun l7 l8 => ih (k + 1) l7 l8 (by omega) (by omega)
          have hx := ho_x (w := w) (k := a) (c := k) (by omega) (by omega)
          have hy := ho_x (w := w) (k := c) (c := k) (by omega) (by omega)
          rw [Nat.add_comm k 32] at hx hy
          have ex : ∀ X : Nat → Bool, cntN X (k + 1) = cntN X k + (if X k = true then 1 else 0) := fun _ => rfl
          rw [ex, ex, ex, show 32 + (k + 1) = 32 + k + 1 by omega] at nx
          refine v278_35 hp ?_
          rw [if_neg (fun z => absurd ((gle 127 (by omega) (by omega)).mp z) (by omega)), h167, h167, ni_p1 (32 + k)]
          refine ⟨hx.1, ?_⟩
          by_cases ca : wCls w a k = true
          · rw [if_pos (hx.2.mpr ca)]
            refine ⟨hy.1, ?_⟩
            by_cases cc : wCls w c k = true
            · rw [if_pos (hy.2.mpr cc), ni_p1, Int32.add_zero, Int32.add_zero]
              rw [ca, cc] at nx
              exact nx _ _
            · rw [if_neg (fun z => cc (hy.2.mp z)), ni_p1, Int32.add_zero, Int32.add_zero]
              have cc' : wCls w c k = false := by cases q : wCls w c k; rfl; exact absurd q cc
              rw [ca, cc'] at nx
              exact nx _ _
          · rw [if_neg (fun z => ca (hx.2.mp z))]
            have ca' : wCls w a k = false := by cases q : wCls w a k; rfl; exact absurd q ca
            refine ⟨hy.1, ?_⟩
            by_cases cc : wCls w c k = true
            · rw [if_pos (hy.2.mpr cc), ni_p1, Int32.add_zero, Int32.add_zero]
              rw [ca', cc] at nx
              exact nx _ _
            · rw [if_neg (fun z => cc (hy.2.mp z)), Int32.add_zero, Int32.add_zero, Int32.add_zero]
              have cc' : wCls w c k = false := by cases q : wCls w c k; rfl; exact absurd q cc
              rw [ca', cc'] at nx
              exact nx _ _
      exact LP _ 0 _ _ rfl (Nat.zero_le _)
    · rw [if_pos (by decide), rTh2 rfl]
      rw [qBs_f (fun z => hb z.2)] at kk
      exact kk
  · rw [if_pos (by decide), rTh2 rfl]
    rw [qBs_f (fun z => hb z.1)] at kk
    exact kk
theorem sr_signq (hp : am_PF Pf) {I : am_I} (hQ : rQ I w T) {D : Nat} (hD : 10 ≤ D) {x1 : Int32} (kk : rA P J Pf w T I cd1 (qPl T.1 T.2 x1)) : am_mth D 287 [.ref 163, .int x1] (am_SH, I, J, Pf) P := by
  obtain ⟨D', rfl⟩ : ∃ D', D = D' + 4 := ⟨D - 4, by omega⟩
  obtain ⟨h180, h24, hT⟩ := hQ.2.2.1
  refine am_mth_of rfl rfl (v287_0 hp ?_)
  rw [h180]
  by_cases c1 : x1 < 0
  · rw [if_pos c1]
    rw [qPl_f (inC_lo (by omega) c1)] at kk
    exact kk
  rw [if_neg c1]
  by_cases c2 : ni T.1 - 1 < x1
  · rw [if_pos c2]
    rw [qPl_f (inC_hi (by omega) ((ni_m1lt (by omega) c1).mp c2))] at kk
    exact kk
  rw [if_neg c2]
  obtain ⟨a, ha, han⟩ := inC_of (by omega) c1 (fun z => c2 ((ni_m1lt (n := T.1) (by omega) c1).mpr z))
  subst ha
  rw [qPl_t han (by omega)] at kk
  rw [show (1 : Int32) + ni a = ni (1 + a) from ni_add 1 a, show (ni (1 + a)).toNatClampNeg = 1 + a from ni_nat (by omega), hT a han]
  exact ⟨ni_in (by omega) (by omega), hQ.z0 kk⟩
theorem sr_runq (hp : am_PF Pf) (hG : WG w) (hs : sndW w) {I : am_I} (hQ : rQ I w T) {D : Nat} (hD : 100 ≤ D) {x1 : Int32} (kk : rA P J Pf w T I cd1 (qPl (T.1 + 1) (fun a => ni (rnT w T a)) x1)) : am_mth D 288 [.ref 163, .int x1] (am_SH, I, J, Pf) P := by
  obtain ⟨D', rfl⟩ : ∃ D', D = D' + 4 := ⟨D - 4, by omega⟩
  obtain ⟨h180, h24, hT⟩ := hQ.2.2.1
  refine am_mth_of rfl rfl (v288_0 hp ?_)
  rw [h180]
  by_cases c1 : x1 < 0
  · rw [if_pos c1]
    rw [qPl_f (inC_lo (by omega) c1)] at kk
    exact kk
  rw [if_neg c1]
  by_cases c2 : ni T.1 < x1
  · rw [if_pos c2]
    rw [qPl_f (fun ⟨a, h1, h2⟩ => inW_hi (by omega) c2 ⟨a, h1, by omega⟩)] at kk
    exact kk
  rw [if_neg c2]
  obtain ⟨a, ha, han⟩ := inW_of (by omega) c1 c2
  subst ha
  rw [qPl_t (by omega) (by omega)] at kk
  refine sr_gk hp hG hs hQ (by omega) (fun I' a1 a2 a3 a4 => am_back (v288_31 hp ?_))
  have hK := a1.kn a2
  rw [show (0 : Int32) = ni 0 from rfl]
  exact sr_run (d0 := D' + 1) hp hG (Nat.zero_le 3) hK.1 hK.2.1 hQ.2.2.2.1 han (am_back (v288_37 hp (kk I' a1 a3 a4)))
theorem sr_begq (hp : am_PF Pf) (hG : WG w) {I : am_I} (hQ : rQ I w T) {D : Nat} (hD : 20 ≤ D) {x1 x2 : Int32} (kk : rA P J Pf w T I cd1 (qSS (aBe w) x1 x2)) : am_mth D 286 [.ref 163, .int x1, .int x2] (am_SH, I, J, Pf) P := by
  obtain ⟨D', rfl⟩ : ∃ D', D = D' + 9 := ⟨D - 9, by omega⟩
  refine am_mth_of rfl rfl (v286_0 hp ?_)
  have bad : ¬ (inW x1 7 ∧ inS x2) → P (.inl (some (.int 0)), (am_SH, am_u (am_u (am_u I 163 0 0) 163 0 1) 164 1 ((I 164 1) + 1), J, Pf), 0, 0) := fun hb => by
    rw [qSS_f hb] at kk
    exact kk
  by_cases c1 : x1 < 0
  · rw [if_pos c1]; exact bad (fun z => inW_lo (by omega) c1 z.1)
  rw [if_neg c1]
  by_cases c2 : (7 : Int32) < x1
  · rw [if_pos c2]; exact bad (fun z => inW_hi (n := 7) (by omega) c2 z.1)
  rw [if_neg c2]
  by_cases c3 : x2 < 32
  · rw [if_pos c3]; exact bad (fun z => inS_lo c3 z.2)
  rw [if_neg c3]
  by_cases c4 : (127 : Int32) ≤ x2
  · rw [if_pos c4]; exact bad (fun z => inS_hi (lt127.mpr c4) z.2)
  rw [if_neg c4]
  clear bad
  obtain ⟨s, hs1, hs7⟩ := inW_of (n := 7) (by omega) c1 c2
  obtain ⟨k, hk, hk95⟩ := inS_of c3 (fun z => c4 (lt127.mp z))
  subst hs1 hk
  rw [qSS_t hs7 hk95] at kk
  refine sr_lays (d0 := D' + 2) hp hG (I := am_u I 163 0 0) (by rw [← hQ.1]; funext y; exact am_u_nq (by omega)) (fun I' b1 b2 b3 => am_back (v286_43 hp ?_))
  have hx := bg_x b1 (show s < 8 by omega) hk95
  have q1 : rQ I' w T := hQ.z.of (fun o y e => b3 o y (by omega) (by omega) (by omega))
  have q2 : rQf I I' := fun o y e1 e2 e3 e4 => by rw [b3 o y (by omega) (by omega) (by omega), am_u_nq (by omega)]
  have q3 : I' 163 0 = 0 := by rw [b3 _ _ (by omega) (by omega) (by omega), am_u_same]
  have hkk := kk I' q1 q2 q3
  unfold aBe at hkk
  refine ⟨hx.1, ?_⟩
  by_cases e : bgC w 8 s k = true
  · rw [if_pos e] at hkk
    rw [if_pos (hx.2.mpr e)]; exact hkk
  · rw [if_neg e] at hkk
    rw [if_neg (fun z => e (hx.2.mp z))]; exact hkk
theorem sr_sortq (hp : am_PF Pf) (hG : WG w) {I : am_I} (hQ : rQ I w T) (hU : btR I 169 (useW w)) (hN : btR I 170 (ndW w 8)) {D : Nat} (hD : 20 ≤ D) {x1 x2 : Int32} (kk : rA P J Pf w T I cd1 (qS2 5 (aSo w) x1 x2)) : am_mth D 285 [.ref 163, .int x1, .int x2] (am_SH, I, J, Pf) P := by
  obtain ⟨D', rfl⟩ : ∃ D', D = D' + 9 := ⟨D - 9, by omega⟩
  refine am_mth_of rfl rfl (v285_0 hp ?_)
  have bad : ¬ (inW x1 7 ∧ inW x2 5) → P (.inl (some (.int 0)), (am_SH, am_u (am_u (am_u I 163 0 0) 163 0 1) 164 1 ((I 164 1) + 1), J, Pf), 0, 0) := fun hb => by
    rw [qS2_f hb] at kk
    exact kk
  by_cases c1 : x1 < 0
  · rw [if_pos c1]; exact bad (fun z => inW_lo (by omega) c1 z.1)
  rw [if_neg c1]
  by_cases c2 : (7 : Int32) < x1
  · rw [if_pos c2]; exact bad (fun z => inW_hi (n := 7) (by omega) c2 z.1)
  rw [if_neg c2]
  by_cases c3 : x2 < 0
  · rw [if_pos c3]; exact bad (fun z => inW_lo (by omega) c3 z.2)
  rw [if_neg c3]
  by_cases c4 : (5 : Int32) < x2
  · rw [if_pos c4]; exact bad (fun z => inW_hi (n := 5) (by omega) c4 z.2)
  rw [if_neg c4]
  clear bad
  obtain ⟨s, hs1, hs7⟩ := inW_of (n := 7) (by omega) c1 c2
  obtain ⟨x, hx1, hx5⟩ := inW_of (n := 5) (by omega) c3 c4
  subst hs1 hx1
  rw [qS2_t hs7 hx5 (by omega)] at kk
  refine sr_lays (d0 := D' + 2) hp hG (I := am_u I 163 0 0) (by rw [← hQ.1]; funext y; exact am_u_nq (by omega)) (fun I' b1 b2' b3 => am_back (v285_44 hp ?_))
  have h8 : s < 8 := by omega
  have q1 : rQ I' w T := hQ.z.of (fun o y e => b3 o y (by omega) (by omega) (by omega))
  have q2 : rQf I I' := fun o y e1 e2 e3 e4 => by rw [b3 o y (by omega) (by omega) (by omega), am_u_nq (by omega)]
  have q3 : I' 163 0 = 0 := by rw [b3 _ _ (by omega) (by omega) (by omega), am_u_same]
  have hkk := kk I' q1 q2 q3
  have b8 : am_in (ni s) 8 = true := ni_in (by omega) (by omega)
  have n8 : (ni s).toNatClampNeg = s := ni_nat (by omega)
  unfold aSo at hkk
  have LP : ∀ (k : Nat) (v : Int32), k ≤ 95 → ((∀ i, k ≤ i → i < 95 → bgC w 8 s i = false) ∧ v = -1 ∨ ∃ j, k ≤ j ∧ j < 95 ∧ bgC w 8 s j = true ∧ (∀ i, k ≤ i → i < j → bgC w 8 s i = false) ∧ v = ni (32 + j)) → am_go none (D' + 8) 285 (53, [some (.ref 163), some (.int (ni s)), some (.int (ni x)), some (.int (ni (cntN (bgC w 8 s) 95 - cntN (bgC w 8 s) k))), some (.int v), some (.int (ni (31 + k)))], [], (am_SH, I', J, Pf), 0, 0) P := by
    intro k
    induction k with
    | zero =>
      intro v hk hv
      have ev : v = lsP (bgC w 8 s) 95 := by
        rcases hv with ⟨z1, z2⟩ | ⟨j, z1, z2, z3, z4, z5⟩
        · rw [z2, lsP_no 95 (fun i hi => z1 i (Nat.zero_le _) hi)]
        · have := lsP_at z3 (fun i hi => z4 i (Nat.zero_le _) hi) (94 - j) (by omega)
          rw [show j + 1 + (94 - j) = 95 by omega] at this
          rw [z5, this]
      rw [ev]
      refine v285_53 hp ?_
      rw [if_pos (show ni (31 + 0) < (32 : Int32) from by decide), n8]
      have x6 : x = 0 ∨ x = 1 ∨ x = 2 ∨ x = 3 ∨ x = 4 ∨ x = 5 := by omega
      rcases x6 with rfl | rfl | rfl | rfl | rfl | rfl
      · rw [if_pos rfl] at hkk
        rw [if_neg (by decide), if_pos (by decide), q1.2.1 s h8]
        exact ⟨b8, hkk⟩
      · rw [if_neg (by decide), if_pos rfl] at hkk
        rw [if_neg (by decide), if_neg (by decide), if_pos (by decide), b2' s h8]
        refine ⟨b8, ?_⟩
        cases e : emX w 8 s
        · rw [e] at hkk
          rw [if_pos (by decide)]; exact hkk
        · rw [e] at hkk
          rw [if_neg (by decide)]; exact hkk
      · rw [if_neg (by decide), if_neg (by decide), if_pos rfl] at hkk
        rw [if_neg (by decide), if_neg (by decide), if_neg (by decide)]
        exact hkk
      · rw [if_neg (by decide), if_neg (by decide), if_neg (by decide), if_pos rfl] at hkk
        rw [if_pos (by decide), if_pos (by decide)]; exact hkk
      · rw [if_neg (by decide), if_neg (by decide), if_neg (by decide), if_neg (by decide), if_pos rfl] at hkk
        rw [if_pos (by decide), if_neg (by decide), if_pos (by decide), q2 _ _ (by omega) (by omega) (by omega) (by omega)]
        rw [bsV_eq (fun t ht => by rw [hU s h8 t ht])] at hkk
        exact ⟨b8, hkk⟩
      · rw [if_neg (by decide), if_neg (by decide), if_neg (by decide), if_neg (by decide), if_neg (by decide)] at hkk
        rw [if_pos (by decide), if_neg (by decide), if_neg (by decide), q2 _ _ (by omega) (by omega) (by omega) (by omega)]
        rw [bsV_eq (fun t ht => by rw [hN s h8 t ht])] at hkk
        exact ⟨b8, hkk⟩
    | succ k ih =>
      intro v hk hv
      have hx := bg_x b1 h8 (show k < 95 by omega)
      have ec : cntN (bgC w 8 s) (k + 1) = cntN (bgC w 8 s) k + (if bgC w 8 s k = true then 1 else 0) := rfl
      have hle : cntN (bgC w 8 s) (k + 1) ≤ cntN (bgC w 8 s) 95 := by
        have := cntN_add (bgC w 8 s) (k + 1) (94 - k)
        rw [show k + 1 + (94 - k) = 95 by omega] at this
        omega
      refine v285_53 hp ?_
      rw [show 31 + (k + 1) = 32 + k by omega, if_neg (fun z => absurd ((llt 32 (by omega) (by omega)).mp z) (by omega)), show ni (32 + k) + -1 = ni (31 + k) by
        rw [← Int32.sub_eq_add_neg, show 32 + k = 31 + k + 1 by omega]; exact ni_sub (a := 31 + k + 1) (b := 1) (by omega)]
      refine ⟨hx.1, ?_⟩
      by_cases e : bgC w 8 s k = true
      · rw [if_pos e] at ec
        rw [if_pos (hx.2.mpr e), ni_p1, show cntN (bgC w 8 s) 95 - cntN (bgC w 8 s) (k + 1) + 1 = cntN (bgC w 8 s) 95 - cntN (bgC w 8 s) k by omega]
        exact ih _ (by omega) (Or.inr ⟨k, Nat.le_refl _, by omega, e, fun i h1 h2 => absurd h1 (by omega), rfl⟩)
      · rw [if_neg e] at ec
        rw [if_neg (fun z => e (hx.2.mp z)), show cntN (bgC w 8 s) 95 - cntN (bgC w 8 s) (k + 1) = cntN (bgC w 8 s) 95 - cntN (bgC w 8 s) k by omega]
        have e' : bgC w 8 s k = false := by cases q : bgC w 8 s k; rfl; exact absurd q e
        refine ih _ (by omega) ?_
        rcases hv with ⟨z1, z2⟩ | ⟨j, z1, z2, z3, z4, z5⟩
        · refine Or.inl ⟨fun i h1 h2 => ?_, z2⟩
          by_cases ei : i = k
          · subst ei; exact e'
          · exact z1 i (by omega) h2
        · refine Or.inr ⟨j, by omega, z2, z3, fun i h1 h2 => ?_, z5⟩
          by_cases ei : i = k
          · subst ei; exact e'
          · exact z4 i (by omega) h2
  have := LP 95 (-1) (Nat.le_refl _) (Or.inl ⟨fun i h1 h2 => absurd h1 (by omega), rfl⟩)
  rw [Nat.sub_self] at this
  exact this
end RSQ
