/-! The class: sets of signs, read -/
/-- the class has read on: only its reader's places have changed -/
def cRd (I I' : am_I) : Prop := ∀ o k, ¬ (o = 1 ∧ (k = 3 ∨ k = 7 ∨ k = 8 ∨ k = 9)) → I' o k = I o k
/-- what may change while the class reads into its rules r -/
def cFr (r : Nat) (I I' : am_I) : Prop := ∀ o k, ¬ (o = 1 ∧ 3 ≤ k) → ¬ (o = 3 ∧ k = 2 ∧ k = 3) → ¬ (5 ≤ o ∧ o ≤ 7) → ¬ (r ≤ o ∧ o < r + 39) → I' o k = I o k
def cJr (r : Nat) (J J' : am_J) : Prop := ∀ o, ¬ (8 ≤ o ∧ o < 16) → ¬ (r ≤ o ∧ o < r + 39) → J' o = J o
/-- a fault has come -/
def cFF (r : Nat) (I I' : am_I) (J J' : am_J) (kd pl : Nat) : Prop := I' 1 5 = ni kd ∧ I' 1 6 = ni pl ∧ cFr r I I' ∧ cJr r J J'
theorem cRd.rfl' {I : am_I} : cRd I I := fun _ _ _ => rfl
theorem cRd.trans {I I' I'' : am_I} (h : cRd I I') (g : cRd I' I'') : cRd I I'' := fun o k e => (g o k e).trans (h o k e)
theorem cFr.rfl' {r : Nat} {I : am_I} : cFr r I I := fun _ _ _ _ _ _ => rfl
theorem cJr.rfl' {r : Nat} {J : am_J} : cJr r J J := fun _ _ _ => rfl
theorem cRd.fr {r : Nat} {I I' : am_I} (h : cRd I I') : cFr r I I' := fun o k e _ _ _ => h o k (fun z => e ⟨z.1, by omega⟩)
theorem cFr.trans {r : Nat} {I I' I'' : am_I} (h : cFr r I I') (g : cFr r I' I'') : cFr r I I'' := fun o k e1 e2 e3 e4 => (g o k e1 e2 e3 e4).trans (h o k e1 e2 e3 e4)
theorem cJr.trans {r : Nat} {I I' I'' : am_J} (h : cJr r I I') (g : cJr r I' I'') : cJr r I I'' := fun o e3 e4 => (g o e3 e4).trans (h o e3 e4)
theorem cFF.after {r : Nat} {I I' I'' : am_I} {J J' J'' : am_J} {kd pl : Nat} (h : cFr r I I') (hJ : cJr r J J') (g : cFF r I' I'' J' J'' kd pl) : cFF r I I'' J J'' kd pl := ⟨g.1, g.2.1, h.trans g.2.2.1, hJ.trans g.2.2.2⟩
theorem cFF.fail {r : Nat} {I I' : am_I} {J J' : am_J} {kd pl : Nat} (h : cFr r I I') (hJ : cJr r J J') (h0 : I' 1 5 = 0) : cFF r I (rfail I' (ni kd) (ni pl)) J J' kd pl := by
  unfold rfail
  rw [if_pos h0]
  refine ⟨by rw [am_u_nq (by omega), am_u_same], am_u_same, fun o k e1 e2 e3 e4 => ?_, hJ⟩
  rw [am_u_nq (by omega), am_u_nq (by omega)]
  exact h o k e1 e2 e3 e4
theorem cFF.set {r : Nat} {I I' : am_I} {J J' : am_J} {kd pl : Nat} (h : cFr r I I') (hJ : cJr r J J') : cFF r I (am_u (am_u I' 1 5 (ni kd)) 1 6 (ni pl)) J J' kd pl := by
  refine ⟨by rw [am_u_nq (by omega), am_u_same], am_u_same, fun o k e1 e2 e3 e4 => ?_, hJ⟩
  rw [am_u_nq (by omega), am_u_nq (by omega)]
  exact h o k e1 e2 e3 e4
theorem cRd.u {I I' : am_I} (h : cRd I I') {k : Nat} {v : Int32} (e : k = 3 ∨ k = 7 ∨ k = 8 ∨ k = 9) : cRd I (am_u I' 1 k v) := by
  intro o' k' e'
  rw [am_u_nq]
  · exact h o' k' e'
  · rintro ⟨rfl, rfl⟩; exact e' ⟨rfl, e⟩
theorem hv_hz {b : Nat → Int32} {n a : Nat} {x : Int32} (h0 : x ≠ 0) (h1 : x ≠ -1) : (hv b n a = x) ↔ hz b n a = x := by
  unfold hv hz
  split
  · exact Iff.rfl
  · exact ⟨fun e => absurd e.symm h1, fun e => absurd e.symm h0⟩
theorem isDg_hv {b : Nat → Int32} {n a : Nat} : isDg (hv b n a) = isDg (hz b n a) := by
  unfold hv hz
  split
  · rfl
  · decide
theorem RD.cr {I I' : am_I} {n a a' : Nat} (h : RD I n a) (hf : ∀ k, k = 2 → I' 1 k = I 1 k) (h' : a' ≤ n) (e : I' 1 3 = ni a') : RD I' n a' := ⟨(hf 2 rfl).trans h.1, e, h', h.2.2.2⟩
section CRD
variable {d : Nat} {P : am_O → Prop} {I : am_I} {J : am_J} {Pf : am_R} {n a r : Nat}
theorem min_lt {v lim : Nat} (hl : lim ≤ 1000) : (ni (min 9999 v) ≤ ni lim - ni 1) ↔ v < lim := by
  rw [ni_leL (by omega) hl]
  omega
theorem sc_num (hp : am_PF Pf) {lim : Nat} (hl : lim ≤ 1000) (h : RD I n a) (h5 : I 1 5 = 0)
    (kk : rm2 (mNum (I 2) n lim a) (fun z => ∀ I', RD I' n z.2 → cRd I I' → I' 1 8 = ni (rsk (I 2) n a) → I' 1 7 = I 1 7 → P (.inl (some (.int (ni z.1))), (am_SH, I', J, Pf), 0, 0)) (fun kd pl => ∀ I', cFF r I I' J J kd pl → pl ≤ 600 → P (.inl (some (.int (-1))), (am_SH, I', J, Pf), 0, 0))) :
    am_mth (d + 2) 58 [.ref 1, .int (ni lim - ni 1)] (am_SH, I, J, Pf) P := by
  have hq := rsk_le (b := I 2) h.2.2.1
  have hn := h.2.2.2
  unfold mNum at kk
  rw [← isDg_hv] at kk
  refine sp_rd_takeNumber hp h (fun c => ?_) (fun c1 c2 => ?_) (fun c1 c2 => ?_)
  · rw [if_neg (by rw [c]; decide)] at kk
    exact kk _ (cFF.fail (cRd.rfl'.u (by omega)).fr cJr.rfl' (by rw [am_u_nq (by omega)]; exact h5)) (by omega)
  · rw [min_lt hl] at c2
    rw [if_pos c1, if_pos c2] at kk
    have e : min 9999 (dgF (I 2) (n - rsk (I 2) n a) (rsk (I 2) n a) 0).1 = (dgF (I 2) (n - rsk (I 2) n a) (rsk (I 2) n a) 0).1 := by omega
    rw [e]
    have hle := dgF_le (I 2) (n - rsk (I 2) n a) (rsk (I 2) n a) 0
    exact kk _ ((h.oth (by omega) (by omega)).at (by omega)) ((cRd.rfl'.u (by omega)).u (by omega)) (by rw [am_u_nq (by omega), am_u_same]) (by rw [am_u_nq (by omega), am_u_nq (by omega)])
  · rw [min_lt hl] at c2
    rw [if_pos c1, if_neg c2] at kk
    exact kk _ (cFF.fail ((cRd.rfl'.u (by omega)).u (by omega)).fr cJr.rfl' (by rw [am_u_nq (by omega), am_u_nq (by omega)]; exact h5)) (by omega)
theorem sc_take (hp : am_PF Pf) {x : Int32} (hx0 : x ≠ 0) (hx : x ≠ -1) (h : RD I n a) (h5 : I 1 5 = 0)
    (kk : rm2 (mTake (I 2) n x a) (fun z => ∀ I', RD I' n z → cRd I I' → I' 1 7 = I 1 7 → I' 1 8 = I 1 8 → P (.inl (some (.int 1)), (am_SH, I', J, Pf), 0, 0)) (fun kd pl => ∀ I', cFF r I I' J J kd pl → pl ≤ 600 → P (.inl (some (.int 0)), (am_SH, I', J, Pf), 0, 0))) :
    am_mth (d + 2) 56 [.ref 1, .int x] (am_SH, I, J, Pf) P := by
  have hq := rsk_le (b := I 2) h.2.2.1
  have hn := h.2.2.2
  unfold mTake at kk
  refine sp_rd_take hp h hx (fun c => ?_) (fun c => ?_)
  · have c2 := (hv_hz hx0 hx).mp c
    rw [if_pos c2] at kk
    have := hz_0 c2 hx0
    exact kk _ (h.at (by omega)) (cRd.rfl'.u (by omega)) (by rw [am_u_nq (by omega)]) (by rw [am_u_nq (by omega)])
  · rw [if_neg (fun z => c ((hv_hz hx0 hx).mpr z))] at kk
    exact kk _ (cFF.fail (cRd.rfl'.u (by omega)).fr cJr.rfl' (by rw [am_u_nq (by omega)]; exact h5)) (by omega)
theorem sc_sort (hp : am_PF Pf) (h30 : Pf 3 0 = some 1) (h : RD I n a) (h5 : I 1 5 = 0)
    (kk : rm2 (mNum (I 2) n 8 a) (fun z => ∀ I', RD I' n z.2 → cRd I I' → I' 1 8 = ni (rsk (I 2) n a) → I' 1 7 = I 1 7 → P (.inl (some (.int (ni z.1))), (am_SH, I', J, Pf), 0, 0)) (fun kd pl => ∀ I', cFF r I I' J J kd pl → pl ≤ 600 → P (.inl (some (.int (-1))), (am_SH, I', J, Pf), 0, 0))) :
    am_mth (d + 3) 26 [.ref 3] (am_SH, I, J, Pf) P := by
  refine am_mth_of rfl rfl (v26_0 hp ⟨h30, ?_⟩)
  rw [show (7 : Int32) = ni 8 - ni 1 from by decide]
  refine sc_num (r := r) hp (by omega) h h5 ?_
  revert kk
  cases mNum (I 2) n 8 a with
  | inl e => exact fun kk I' hF hpl => am_back (v26_9 hp (kk I' hF hpl))
  | inr z => exact fun kk I' hR hf h8 h7 => am_back (v26_9 hp (kk I' hR hf h8 h7))
theorem sc_class (hp : am_PF Pf) (h30 : Pf 3 0 = some 1) (h31 : Pf 3 1 = some r) (hr : am_SH[r]? = some (.inl 4)) {cc : Nat} (hc : cc ≤ 8) (hcc : I r 1 = ni cc) (hr1 : r ≠ 1) (h : RD I n a) (h5 : I 1 5 = 0)
    (kk : rm2 (mCl (I 2) n cc a) (fun z => ∀ I', RD I' n z.2 → cRd I I' → z.1 < cc → I' 1 7 = I 1 7 → P (.inl (some (.int (ni z.1))), (am_SH, I', J, Pf), 0, 0)) (fun kd pl => ∀ I', cFF r I I' J J kd pl → pl ≤ 600 → P (.inl (some (.int (-1))), (am_SH, I', J, Pf), 0, 0))) :
    am_mth (d + 3) 27 [.ref 3] (am_SH, I, J, Pf) P := by
  refine am_mth_of rfl rfl (v27_0 hp ⟨h30, sc_take (r := r) hp (by decide) (by decide) h h5 ?_⟩)
  unfold mCl at kk
  cases hm : mTake (I 2) n 35 a with
  | inl e =>
    rw [hm] at kk
    intro I' hF hpl
    refine am_back (v27_9 hp ?_)
    rw [if_pos rfl]
    exact kk I' hF hpl
  | inr q =>
    rw [hm] at kk
    dsimp only [rb] at kk
    intro I' hR hf h7 h8
    refine am_back (v27_9 hp ?_)
    rw [if_neg (by decide)]
    refine ⟨h30, r, h31, hr, ?_⟩
    have e2 : I' 2 = I 2 := by funext k; exact hf 2 k (by omega)
    rw [hf r 1 (by omega), hcc]
    refine sc_num (r := r) hp (by omega) hR (by rw [hf 1 5 (by omega)]; exact h5) ?_
    rw [e2]
    cases hm2 : mNum (I 2) n cc q with
    | inl e =>
      rw [hm2] at kk
      exact fun I'' hF hpl => am_back (v27_28 hp (kk I'' (cFF.after hf.fr cJr.rfl' hF) hpl))
    | inr z =>
      rw [hm2] at kk
      exact fun I'' hR2 hf2 g8 g7 => am_back (v27_28 hp (kk I'' hR2 (hf.trans hf2) (mNum_lt hm2).2 (g7.trans h7)))
/-- a set has been read into row s of the sets -/
def cSX (I I' : am_I) (J J' : am_J) (n s : Nat) (z : (Nat → Bool) × Nat) : Prop := RD I' n z.2 ∧ cRd I I' ∧ (∀ k, k < 95 → sgD J' (8 + s) k = z.1 k) ∧ sgT J' (8 + s) ∧ ∀ o, (o < 8 + s ∨ 16 ≤ o) → J' o = J o
theorem set_obj (hp : am_PF Pf) {s : Nat} (hs : s < 8) : Pf 4 s = some (8 + s) ∧ am_SH[8 + s]? = some (.inl 6) := by
  have := of_decide_eq_true (List.all_eq_true.mp am_e4 s (List.mem_range.mpr hs))
  rw [Nat.one_mul] at this
  exact ⟨hp _ _ _ this.1, this.2⟩
/-- signs added one by one -/
theorem cr_adds (hp : am_PF Pf) {s lo hi : Nat} (hs : am_SH[s]? = some (.inl 6)) (hlo : 32 ≤ lo) (hhi : hi ≤ 126) {x2 : Int32} {f : Nat → Bool} : ∀ (m : Nat) (J : am_J) (c : Nat) (l3 : Option Value), hi + 1 - c = m → lo ≤ c → c ≤ hi + 1 → (∀ k, k < 95 → sgD J s k = (f k || decide (lo ≤ k + 32 ∧ k + 32 < c))) → sgT J s →
    (∀ (J' : am_J) (x5 : Int32), (∀ k, k < 95 → sgD J' s k = (f k || decide (lo ≤ k + 32 ∧ k + 32 ≤ hi))) → sgT J' s → (∀ o, o ≠ s → J' o = J o) → am_go none (d + 1) 32 (19, [some (.ref 3), some (.ref s), some (.int (x2 + 1)), l3, some (.int (ni hi)), some (.int x5)], [], (am_SH, I, J', Pf), 0, 0) P) →
    am_go none (d + 1) 32 (129, [some (.ref 3), some (.ref s), some (.int x2), l3, some (.int (ni hi)), some (.int (ni c))], [], (am_SH, I, J, Pf), 0, 0) P := by
  intro m
  induction m with
  | zero =>
    intro J c l3 hm h1 h2 hS hT kk
    refine v32_129 hp hs ?_
    rw [if_pos ((ni_lt (by omega) (by omega)).mpr (by omega))]
    refine kk J _ (fun k hk => ?_) hT (fun _ _ => rfl)
    rw [hS k hk]
    congr 1
    exact decide_eq_decide.mpr (by omega)
  | succ m ih =>
    intro J c l3 hm h1 h2 hS hT kk
    refine v32_129 hp hs ?_
    rw [if_neg (fun z => absurd ((ni_lt (by omega) (by omega)).mp z) (by omega))]
    refine sg_add hp hs hT (by omega) (fun J' hJ => am_back (v32_142 hp hs ?_))
    rw [ni_1, ni_add]
    refine ih J' (c + 1) _ (by omega) (by omega) (by omega) (fun k hk => ?_) hJ.2.2 ?_
    · rw [hJ.2.1 k hk]
      dsimp only
      rw [hS k hk, Bool.or_assoc, ← Bool.decide_or]
      congr 1
      exact decide_eq_decide.mpr (by omega)
    · intro J'' x5 g1 g2 g3
      exact kk J'' x5 g1 g2 (fun o ho => (g3 o ho).trans (hJ.1 o ho))
/-- the loop in [ ] -/
theorem cr_rng (hp : am_PF Pf) (h30 : Pf 3 0 = some 1) {s : Nat} (hs8 : s < 8) : ∀ (F : Nat) (I : am_I) (J : am_J) (a x : Nat) (f : Nat → Bool) (l3 l4 l5 : Option Value), n + 1 - a ≤ F → x + 1 ≤ a → RD I n a → I 1 5 = 0 → (∀ k, k < 95 → sgD J (8 + s) k = f k) → sgT J (8 + s) →
    rm2 (mRng (I 2) n F a f) (fun z => ∀ I' J', cSX I I' J J' n s z → (∀ o, o ≠ 8 + s → J' o = J o) → P (.inl (some (.int 1)), (am_SH, I', J', Pf), 0, 0)) (fun kd pl => ∀ I' J', cFF r I I' J J' kd pl → pl ≤ 600 → P (.inl (some (.int 0)), (am_SH, I', J', Pf), 0, 0)) →
    am_go none (d + 2) 32 (19, [some (.ref 3), some (.ref (8 + s)), some (.int (ni x)), l3, l4, l5], [], (am_SH, I, J, Pf), 0, 0) P := by
  have hs := (set_obj hp hs8).2
  intro F
  induction F with
  | zero =>
    intro I J a x f l3 l4 l5 hF hx h
    have := h.2.2.1
    omega
  | succ F ih =>
    intro I J a x f l3 l4 l5 hF hx h h5 hS hT kk
    have hR := h
    obtain ⟨h2, h3, h4, h6⟩ := h
    unfold mRng at kk
    refine v32_19 hp hs ?_
    rw [if_neg (fun z => absurd ((gle 600 (by omega) (by omega)).mp z) (by omega))]
    refine ⟨h30, ?_⟩
    rw [h2, h3, if_neg (ni_nonneg (by omega))]
    have nxt : ∀ (I1 : am_I) (a1 lo hi : Nat) (l5 : Option Value), a < a1 → a1 ≤ n → RD I1 n a1 → I1 1 5 = 0 → cRd I I1 → 32 ≤ lo → lo ≤ hi → hi ≤ 126 →
        rm2 (mRng (I 2) n F a1 (sRng f (ni lo) (ni hi))) (fun z => ∀ I' J', cSX I I' J J' n s z → (∀ o, o ≠ 8 + s → J' o = J o) → P (.inl (some (.int 1)), (am_SH, I', J', Pf), 0, 0)) (fun kd pl => ∀ I' J', cFF r I I' J J' kd pl → pl ≤ 600 → P (.inl (some (.int 0)), (am_SH, I', J', Pf), 0, 0)) →
        am_go none (d + 2) 32 (126, [some (.ref 3), some (.ref (8 + s)), some (.int (ni x)), some (.int (ni lo)), some (.int (ni hi)), l5], [], (am_SH, I1, J, Pf), 0, 0) P := by
      intro I1 a1 lo hi l5 g1 g2 g3 g4 g5 g6 g7 g8 kk
      refine v32_126 hp hs (cr_adds (d := d + 1) hp hs g6 g8 (f := f) _ _ lo _ rfl (Nat.le_refl _) (by omega) (fun k hk => ?_) hT ?_)
      · rw [hS k hk, decide_eq_false (by omega), Bool.or_false]
      · intro J' x5 e1 e2 e3
        have e' : (fun k => f k || decide (lo ≤ k + 32 ∧ k + 32 ≤ hi)) = sRng f (ni lo) (ni hi) := by
          funext k
          unfold sRng
          rw [ni_nat (by omega), ni_nat (by omega)]
        have e12 : I1 2 = I 2 := by funext k; exact g5 2 k (by omega)
        rw [ni_1, ni_add]
        refine ih I1 J' a1 (x + 1) (sRng f (ni lo) (ni hi)) _ _ _ (by omega) (by omega) g3 g4 (fun k hk => by rw [← e']; exact e1 k hk) e2 ?_
        rw [e12]
        have eJ : cJr r J J' := fun o e _ => e3 o (by omega)
        revert kk
        cases mRng (I 2) n F a1 (sRng f (ni lo) (ni hi)) with
        | inl e => exact fun kk I'' J'' hF hpl => kk I'' J'' (cFF.after g5.fr eJ hF) hpl
        | inr z => exact fun kk I'' J'' hX hJ => kk I'' J'' ⟨hX.1, g5.trans hX.2.1, hX.2.2.1, hX.2.2.2.1, fun o ho => (hX.2.2.2.2 o ho).trans (e3 o (by omega))⟩ (fun o ho => (hJ o ho).trans (e3 o ho))
    -- a sign is read
    have rd : ¬ hv (I 2) n a = 93 → am_mth (d + 2) 63 [.ref 1, .int 0] (am_SH, I, J, Pf) (am_af none (d + 2) 32 43 [some (.ref 3), some (.ref (8 + s)), some (.int (ni x)), l3, l4, l5] [.int 0, .ref 1] [] (am_SH, I, J, Pf) 0 0 false P) := by
      intro h93
      rw [if_neg h93] at kk
      refine sp_rd_takeSign hp hR (fun hsg => am_back ?_) (fun hsg => am_back ?_)
      · rw [if_pos hsg] at kk
        obtain ⟨lo, elo, lo1, lo2⟩ := sgOk_sg hsg
        have hA := sgOk_lt hsg
        have hA2 := sgA_le (b := I 2) h4
        have hR1 := hR.at (a' := sgA (I 2) n a + 1) (by omega)
        have m5 : am_u I 1 3 (ni (sgA (I 2) n a + 1)) 1 5 = 0 := by rw [am_u_nq (by omega)]; exact h5
        have hf1 : cRd I (am_u I 1 3 (ni (sgA (I 2) n a + 1))) := cRd.rfl'.u (by omega)
        refine v32_46 hp hs ?_
        rw [elo, if_neg (ni_neg1 (by omega))]
        refine ⟨h30, ?_⟩
        have one : ¬ hv (I 2) n (sgA (I 2) n a + 1) = 45 → am_go none (d + 2) 32 (126, [some (.ref 3), some (.ref (8 + s)), some (.int (ni x)), some (.int (ni lo)), some (.int (ni lo)), l5], [], (am_SH, am_u I 1 3 (ni (sgA (I 2) n a + 1)), J, Pf), 0, 0) P := by
          intro hn
          rw [if_neg hn, elo] at kk
          exact nxt _ (sgA (I 2) n a + 1) lo lo l5 (by omega) (by omega) hR1 m5 hf1 lo1 (Nat.le_refl _) lo2 kk
        obtain ⟨m2, m3, m4, m6⟩ := hR1
        rw [m2, m3, if_neg (ni_nonneg (by omega))]
        by_cases hn : n ≤ sgA (I 2) n a + 1
        · rw [if_pos ((ni_le (by omega) (by omega)).mpr hn)]
          exact one (by rw [show hv (I 2) n (sgA (I 2) n a + 1) = -1 from if_neg (by omega)]; decide)
        · rw [if_neg (fun z => hn ((ni_le (by omega) (by omega)).mp z)), if_neg (fun z => absurd ((gle 600 (by omega) (by omega)).mp z) (by omega)), ni_nat (by omega), am_u_o (by omega)]
          refine ⟨ni_in (by omega) (by omega), ?_⟩
          have ev : hv (I 2) n (sgA (I 2) n a + 1) = I 2 (sgA (I 2) n a + 1) := if_pos (by omega)
          by_cases c45 : I 2 (sgA (I 2) n a + 1) = 45
          · rw [if_pos (ev.trans c45)] at kk
            rw [if_pos c45, ni_1, ni_add, am_u_u]
            have hR2 := hR.at (a' := sgA (I 2) n a + 1 + 1) (by omega)
            have e2 : (am_u I 1 3 (ni (sgA (I 2) n a + 1 + 1))) 2 = I 2 := am_u_o (by omega)
            have n5 : am_u I 1 3 (ni (sgA (I 2) n a + 1 + 1)) 1 5 = 0 := by rw [am_u_nq (by omega)]; exact h5
            refine sp_rd_takeSign hp hR2 (fun hs2 => am_back ?_) (fun hs2 => am_back ?_)
            · rw [e2] at hs2 ⊢
              rw [if_pos hs2, elo] at kk
              obtain ⟨hi, ehi, hi1, hi2⟩ := sgOk_sg hs2
              have hB := sgOk_lt hs2
              have hB2 := sgA_le (b := I 2) hR2.2.2.1
              rw [ehi] at kk ⊢
              rw [am_u_u]
              have hR3 := hR.at (a' := sgA (I 2) n (sgA (I 2) n a + 1 + 1) + 1) (by omega)
              refine v32_99 hp hs ?_
              rw [if_neg (ni_neg1 (by omega))]
              by_cases clt : hi < lo
              · rw [if_pos ((ni_lt (by omega) (by omega)).mpr clt)] at kk
                rw [if_neg (fun z => absurd ((ni_le (by omega) (by omega)).mp z) (by omega))]
                refine ⟨h30, ?_⟩
                rw [if_pos (by rw [am_u_nq (by omega)]; exact h5)]
                exact kk _ _ (cFF.set (kd := 2) (pl := sgA (I 2) n a + 1 + 1) (cRd.rfl'.u (by omega)).fr cJr.rfl') (by omega)
              · rw [if_neg (fun z => clt ((ni_lt (by omega) (by omega)).mp z))] at kk
                rw [if_pos ((ni_le (by omega) (by omega)).mpr (by omega))]
                exact nxt _ (sgA (I 2) n (sgA (I 2) n a + 1 + 1) + 1) lo hi _ (by omega) (by omega) hR3 (by rw [am_u_nq (by omega)]; exact h5) (cRd.rfl'.u (by omega)) lo1 (by omega) hi2 kk
            · rw [e2] at hs2 ⊢
              rw [if_neg (by rw [hs2]; decide)] at kk
              refine v32_99 hp hs ?_
              rw [if_pos rfl, am_u_u]
              have hB2 := sgA_le (b := I 2) hR2.2.2.1
              exact kk _ _ (cFF.fail (cRd.rfl'.u (by omega)).fr cJr.rfl' (by rw [am_u_nq (by omega)]; exact h5)) (by show sgA (I 2) n (sgA (I 2) n a + 1 + 1) ≤ 600; omega)
          · rw [if_neg c45]
            exact one (by rw [ev]; exact c45)
      · rw [if_neg (by rw [hsg]; decide)] at kk
        refine v32_46 hp hs ?_
        rw [if_pos rfl]
        have hA2 := sgA_le (b := I 2) h4
        exact kk _ _ (cFF.fail (cRd.rfl'.u (by omega)).fr cJr.rfl' (by rw [am_u_nq (by omega)]; exact h5)) (by omega)
    by_cases hn : n ≤ a
    · rw [if_pos ((ni_le (by omega) (by omega)).mpr hn)]
      exact rd (by rw [show hv (I 2) n a = -1 from if_neg (by omega)]; decide)
    · rw [if_neg (fun z => hn ((ni_le (by omega) (by omega)).mp z)), if_neg (fun z => absurd ((gle 600 (by omega) (by omega)).mp z) (by omega)), ni_nat (by omega)]
      refine ⟨ni_in (by omega) (by omega), ?_⟩
      have ev : hv (I 2) n a = I 2 a := if_pos (by omega)
      by_cases c93 : I 2 a = 93
      · rw [if_pos (ev.trans c93)] at kk
        rw [if_pos c93]
        refine v32_154 hp ⟨h30, ?_⟩
        rw [h3, ni_1, ni_add]
        exact kk _ _ ⟨hR.at (by omega), cRd.rfl'.u (by omega), hS, hT, fun _ _ => rfl⟩ (fun _ _ => rfl)
      · rw [if_neg c93]
        exact rd (by rw [ev]; exact c93)
theorem sc_rng (hp : am_PF Pf) (h30 : Pf 3 0 = some 1) {s : Nat} (hs8 : s < 8) (h : RD I n a) (h5 : I 1 5 = 0) (hlt : a < n)
    (kk : rm2 (mRng (I 2) n (n - a) (a + 1) (fun _ => false)) (fun z => ∀ I' J', cSX I I' J J' n s z → (∀ o, o ≠ 8 + s → J' o = J o) → P (.inl (some (.int 1)), (am_SH, I', J', Pf), 0, 0)) (fun kd pl => ∀ I' J', cFF r I I' J J' kd pl → pl ≤ 600 → P (.inl (some (.int 0)), (am_SH, I', J', Pf), 0, 0))) :
    am_mth (d + 3) 32 [.ref 3, .ref (8 + s)] (am_SH, I, J, Pf) P := by
  have hs := (set_obj hp hs8).2
  refine am_mth_of rfl rfl (v32_0 hp hs ⟨h30, sg_clear hp hs (fun J' hJ => am_back (v32_17 hp hs ?_))⟩)
  rw [h.2.1, ni_1, ni_add]
  have hf1 : cRd I (am_u I 1 3 (ni (a + 1))) := cRd.rfl'.u (by omega)
  have e2 : (am_u I 1 3 (ni (a + 1))) 2 = I 2 := am_u_o (by omega)
  refine cr_rng (r := r) hp h30 hs8 (n - a) _ J' (a + 1) 0 (fun _ => false) _ _ _ (by omega) (by omega) (h.at (by omega)) (by rw [am_u_nq (by omega)]; exact h5) hJ.2.1 hJ.2.2 ?_
  rw [e2]
  have eJ : cJr r J J' := fun o e _ => hJ.1 o (by omega)
  revert kk
  cases mRng (I 2) n (n - a) (a + 1) (fun _ => false) with
  | inl e => exact fun kk I'' J'' hF hpl => kk I'' J'' (cFF.after hf1.fr eJ hF) hpl
  | inr z => exact fun kk I'' J'' hX hJ2 => kk I'' J'' ⟨hX.1, hf1.trans hX.2.1, hX.2.2.1, hX.2.2.2.1, fun o ho => (hX.2.2.2.2 o ho).trans (hJ.1 o (by omega))⟩ (fun o ho => (hJ2 o ho).trans (hJ.1 o ho))
end CRD
