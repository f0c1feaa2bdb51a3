/-! The class: a whole grammar is read -/
theorem cG.of2 {r : Nat} {I I' : am_I} {J J' : am_J} {w : Nat → Int32} (h : cG r I J w) (f : ∀ o k, r ≤ o → o < r + 15 → I' o k = I o k) (g : ∀ c, c < wN w 0 → J' (cO r + c) = J (cO r + c)) : cG r I' J' w := by
  obtain ⟨⟨c0, c1, c2, c3, c4, c5⟩, hC, hP, hQ, hN, hD⟩ := h
  refine ⟨⟨by rw [f _ _ (by omega) (by omega)]; exact c0, by rw [f _ _ (by omega) (by omega)]; exact c1, by rw [f _ _ (by omega) (by omega)]; exact c2, by rw [f _ _ (by omega) (by omega)]; exact c3, by rw [f _ _ (by omega) (by omega)]; exact c4, by rw [f _ _ (by omega) (by omega)]; exact c5⟩, fun c hc => (hC c hc).of (g c hc) (fun _ _ => rfl), fun p hp => ?_, fun q hq => ?_, fun j hj => ?_, fun d hd => ?_⟩
  · obtain ⟨h1, h2, h3, h4⟩ := hP p hp
    refine ⟨by rw [f _ _ (by omega) (by omega)]; exact h1, by rw [f _ _ (by omega) (by omega)]; exact h2, by rw [f _ _ (by omega) (by omega)]; exact h3, fun k hk => ?_⟩
    obtain ⟨k1, k2, k3⟩ := h4 k hk
    refine ⟨by rw [f _ _ (by omega) (by omega)]; exact k1, fun z => by rw [f _ _ (by omega) (by omega)]; exact k2 z, fun z => ⟨by rw [f _ _ (by omega) (by omega)]; exact (k3 z).1, fun i hi => by rw [f _ _ (by omega) (by omega)]; exact (k3 z).2 i hi⟩⟩
  · obtain ⟨h1, h2, h3⟩ := hQ q hq
    exact ⟨by rw [f _ _ (by omega) (by omega)]; exact h1, by rw [f _ _ (by omega) (by omega)]; exact h2, fun i hi => by rw [f _ _ (by omega) (by omega)]; exact h3 i hi⟩
  · exact (hN j hj).of (f _ _ (by omega) (by omega)) (f _ _ (by omega) (by omega)) (fun _ _ => rfl)
  · exact (hD d hd).of (f _ _ (by omega) (by omega)) (f _ _ (by omega) (by omega)) (fun _ _ => rfl)
/-- the class's sorts -/
def cSo (r : Nat) (I : am_I) (J : am_J) (w : Nat → Int32) : Prop := (btR I (r + 16) (useW w) ∧ btR I (r + 17) (drpW w) ∧ btR I (r + 18) (ndW w 8)) ∧ (nmR I (r + 19) (lyW w 64) ∧ I (r + 15) 4 = ni (mxL (lyW w 64) 8)) ∧ (∀ t, t < 32 → bI (I (r + 15) 5) t = emX w 8 t) ∧ bgJ r J (bgC w 8) ∧ ((∀ k, k < 95 → sgD J (r + 21) k = nmS w k) ∧ sgT J (r + 21)) ∧ clsR r I w
section CRD
variable {d0 : Nat} {P : am_O → Prop} {Pf : am_R} {w : Nat → Int32} {r : Nat}
theorem sc_rest (hp : am_PF Pf) (hr : r = 16 ∨ r = 55) (hG : WG w) (hs : sndW w) {I : am_I} {J : am_J} (hw : cG r I J w) (hU : btR I (r + 16) (useW w)) (hD : btR I (r + 17) (drpW w)) (hN : btR I (r + 18) (ndW w 8))
    (kk : ∀ I' J', cG r I' J' w → cSo r I' J' w → (∀ o k, ¬ (r + 15 ≤ o ∧ o < r + 23) → I' o k = I o k) → (∀ o, ¬ (r + 21 ≤ o ∧ o < r + 31) → J' o = J o) → P (.inl none, (am_SH, I', J', Pf), 0, 0)) : am_mth (d0 + 4) 92 [.ref (r + 15), .ref r] (am_SH, I, J, Pf) P := by
  have s15 := (srt_sh hr).1
  obtain ⟨s21, s22⟩ := srt_sh2 hr
  have hrs := rul_sh hr
  have hO := cO_le hr
  -- the classes of each sign
  have LC : ∀ (m : Nat) (I1 : am_I) (J1 : am_J) (c : Nat), 127 - c = m → c ≤ 127 → 32 ≤ c → cG r I1 J1 w → (∀ x, x + 32 < c → ∀ t, t < 32 → bI (I1 (r + 22) (x + 32)) t = (decide (t < wN w 0) && wCls w t x)) → (∀ I', clsR r I' w → (∀ o k, o ≠ r + 22 → I' o k = I1 o k) → P (.inl none, (am_SH, I', J1, Pf), 0, 0)) → am_go none (d0 + 3) 92 (78, [some (.ref (r + 15)), some (.ref r), some (.int (ni c))], [], (am_SH, I1, J1, Pf), 0, 0) P := by
    intro m
    induction m with
    | zero =>
      intro I1 J1 c hm hc h32 hw hX kk
      have : c = 127 := by omega
      subst this
      refine v92_78 hp s15 hrs ?_
      rw [if_pos (by decide)]
      exact kk I1 (fun x hx => hX x (by omega)) (fun _ _ _ => rfl)
    | succ m ih =>
      intro I1 J1 c hm hc h32 hw hX kk
      refine v92_78 hp s15 hrs ?_
      rw [if_neg (fun z => absurd ((glt 126 (by omega) (by omega)).mp z) (by omega))]
      refine sc_classes (d0 := d0 + 1) hp hr hG hw (c := c) h32 (by omega) (fun v hv => am_back (v92_94 hp s15 hrs s22 ?_))
      rw [show (ni c).toNatClampNeg = c from ni_nat (by omega), ni_p1]
      refine ⟨ni_in (by omega) (by omega), ih _ J1 (c + 1) (by omega) (by omega) (by omega) (hw.of2 (fun o k e1 e2 => am_u_nq (by omega)) (fun _ _ => rfl)) (fun x hx t ht => ?_) (fun I' f1 f2 => kk I' f1 (fun o k e => (f2 o k e).trans (am_u_nq (by omega))))⟩
      by_cases e : x + 32 = c
      · rw [show r + 15 + 7 = r + 22 from rfl, e, am_u_same, hv t ht, show c - 32 = x by omega]
      · rw [am_u_nq (by omega)]; exact hX x (by omega) t ht
  -- the begins
  have LB : ∀ (m : Nat) (I1 : am_I) (J1 : am_J) (j : Nat), 8 - j = m → j ≤ 8 → cG r I1 J1 w → (∀ t, t < 32 → bI (I1 (r + 15) 5) t = emX w 8 t) → bgJ r J1 (bgC w j) → (∀ I' J', cG r I' J' w → clsR r I' w → bgJ r J' (bgC w 8) → ((∀ k, k < 95 → sgD J' (r + 21) k = nmS w k) ∧ sgT J' (r + 21)) → (∀ o k, o ≠ r + 22 → I' o k = I1 o k) → (∀ o, ¬ (r + 21 ≤ o ∧ o < r + 31) → J' o = J1 o) → P (.inl none, (am_SH, I', J', Pf), 0, 0)) → am_go none (d0 + 3) 92 (53, [some (.ref (r + 15)), some (.ref r), some (.int (ni j))], [], (am_SH, I1, J1, Pf), 0, 0) P := by
    intro m
    induction m with
    | zero =>
      intro I1 J1 j hm hj hw hE hB kk
      have : j = 8 := by omega
      subst this
      refine v92_53 hp s15 hrs ?_
      rw [if_pos (by decide)]
      refine sc_named (d0 := d0) hp hr hG hw (fun J2 z => am_back (v92_75 hp s15 hrs ?_))
      have hw2 : cG r I1 J2 w := hw.of2 (fun _ _ _ _ => rfl) (fun c hc => z.2.2 _ (by omega))
      have hB2 : bgJ r J2 (bgC w 8) := fun s h8 => by
        have e : J2 (r + 23 + s) = J1 (r + 23 + s) := z.2.2 _ (by omega)
        exact ⟨fun k hk => by rw [sgD_o e]; exact (hB s h8).1 k hk, sgT_o e (hB s h8).2⟩
      refine LC 95 I1 J2 32 rfl (by omega) (by omega) hw2 (fun x hx => absurd hx (by omega)) (fun I' f1 f2 => kk I' J2 (hw2.of2 (fun o k e1 e2 => f2 _ _ (by omega)) (fun _ _ => rfl)) f1 hB2 ⟨z.1, z.2.1⟩ f2 (fun o e => z.2.2 _ (by omega)))
    | succ m ih =>
      intro I1 J1 j hm hj hw hE hB kk
      refine v92_53 hp s15 hrs ?_
      rw [if_neg (fun z => absurd ((gle 8 (by omega) (by omega)).mp z) (by omega))]
      refine sc_begins (d0 := d0) hp hr hG hw hE hB (fun J2 z1 z2 => am_back (v92_64 hp s15 hrs ?_))
      rw [ni_p1]
      exact ih I1 J2 (j + 1) (by omega) (by omega) (hw.of2 (fun _ _ _ _ => rfl) (fun c hc => z2 _ (by omega))) hE z1 (fun I' J' g1 g2 g3 g4 g5 g6 => kk I' J' g1 g2 g3 g4 g5 (fun o e => (g6 o e).trans (z2 o (by omega))))
  -- the begins are cleared
  have LZ : ∀ (m : Nat) (I1 : am_I) (J1 : am_J) (s : Nat), 8 - s = m → s ≤ 8 → cG r I1 J1 w → (∀ a, a < s → (∀ k, k < 95 → sgD J1 (r + 23 + a) k = false) ∧ sgT J1 (r + 23 + a)) → (∀ J', cG r I1 J' w → bgJ r J' (bgC w 0) → bgO r J1 J' → am_go none (d0 + 3) 92 (53, [some (.ref (r + 15)), some (.ref r), some (.int (ni 0))], [], (am_SH, I1, J', Pf), 0, 0) P) → am_go none (d0 + 3) 92 (30, [some (.ref (r + 15)), some (.ref r), some (.int (ni s))], [], (am_SH, I1, J1, Pf), 0, 0) P := by
    intro m
    induction m with
    | zero =>
      intro I1 J1 s hm hs hw hX kk
      have : s = 8 := by omega
      subst this
      refine v92_30 hp s15 hrs ?_
      rw [if_pos (by decide), show (0 : Int32) = ni 0 from rfl]
      exact kk J1 hw (fun a ha => hX a ha) bgO.rfl'
    | succ m ih =>
      intro I1 J1 s hm hs hw hX kk
      obtain ⟨o1, o2⟩ := beg_obj hp hr (s := s) (by omega)
      refine v92_30 hp s15 hrs ?_
      rw [if_neg (fun z => absurd ((gle 8 (by omega) (by omega)).mp z) (by omega)), show (ni s).toNatClampNeg = s from ni_nat (by omega)]
      refine ⟨ni_in (by omega) (by omega), _, o1, o2, sg_clear (d := d0 + 2) hp o2 (fun J2 z => am_back (v92_45 hp s15 hrs ?_))⟩
      rw [ni_p1]
      refine ih I1 J2 (s + 1) (by omega) (by omega) (hw.of2 (fun _ _ _ _ => rfl) (fun c hc => z.1 _ (by omega))) (fun a ha => ?_) (fun J' g1 g2 g3 => kk J' g1 g2 (fun o e => (g3 o e).trans (z.1 o (by omega))))
      by_cases e : a = s
      · subst e; exact z.2
      · have eo : J2 (r + 23 + a) = J1 (r + 23 + a) := z.1 _ (by omega)
        exact ⟨fun k hk => by rw [sgD_o eo]; exact (hX a (by omega)).1 k hk, sgT_o eo (hX a (by omega)).2⟩
  -- the empties
  have LM : ∀ (m : Nat) (I1 : am_I) (j : Nat), 8 - j = m → j ≤ 8 → cG r I1 J w → (∀ t, t < 32 → bI (I1 (r + 15) 5) t = emX w j t) → (∀ I', cG r I' J w → (∀ t, t < 32 → bI (I' (r + 15) 5) t = emX w 8 t) → (∀ o k, ¬ (o = r + 15 ∧ k = 5) → I' o k = I1 o k) → am_go none (d0 + 3) 92 (30, [some (.ref (r + 15)), some (.ref r), some (.int (ni 0))], [], (am_SH, I', J, Pf), 0, 0) P) → am_go none (d0 + 3) 92 (11, [some (.ref (r + 15)), some (.ref r), some (.int (ni j))], [], (am_SH, I1, J, Pf), 0, 0) P := by
    intro m
    induction m with
    | zero =>
      intro I1 j hm hj hw hE kk
      have : j = 8 := by omega
      subst this
      refine v92_11 hp s15 hrs ?_
      rw [if_pos (by decide), show (0 : Int32) = ni 0 from rfl]
      exact kk I1 hw hE (fun _ _ _ => rfl)
    | succ m ih =>
      intro I1 j hm hj hw hE kk
      refine v92_11 hp s15 hrs ?_
      rw [if_neg (fun z => absurd ((gle 8 (by omega) (by omega)).mp z) (by omega))]
      refine sc_empty (d0 := d0 + 1) hp hr hG hw hE (fun I2 z1 z2 => am_back (v92_22 hp s15 hrs ?_))
      rw [ni_p1]
      exact ih I2 (j + 1) (by omega) (by omega) (hw.of2 (fun o k e1 e2 => z2 _ _ (by omega)) (fun _ _ => rfl)) z1 (fun I' g1 g2 g3 => kk I' g1 g2 (fun o k e => (g3 o k e).trans (z2 o k e)))
  refine am_mth_of rfl rfl (v92_0 hp s15 hrs ?_)
  refine sc_layers (d0 := d0 + 1) hp hr hG hs hU hD (fun I1 a1 a2 a3 => am_back (v92_4 hp s15 hrs ?_))
  rw [show am_u I1 (r + 15) 5 0 = am_u I1 (r + 15) 5 (ni 0) from rfl, show (0 : Int32) = ni 0 from rfl]
  refine LM 8 _ 0 rfl (by omega) (hw.of2 (fun o k e1 e2 => (am_u_nq (by omega)).trans (a3 _ _ (by omega) (by omega))) (fun _ _ => rfl)) (fun t ht => ?_) (fun I2 b1 b2 b3 => ?_)
  · rw [am_u_same]; exact bI_0
  refine LZ 8 I2 J 0 rfl (by omega) b1 (fun a ha => absurd ha (by omega)) (fun J2 c1 c2 c3 => ?_)
  refine LB 8 I2 J2 0 rfl (by omega) c1 b2 c2 (fun I3 J3 e1 e2 e3 e4 e5 e6 => ?_)
  have f3 : ∀ o k, o ≠ r + 22 → ¬ (o = r + 15 ∧ k = 5) → I3 o k = I1 o k := fun o k g1 g2 => by rw [e5 o k g1, b3 o k g2, am_u_nq (by omega)]
  refine kk I3 J3 e1 ⟨⟨hU.o (fun k => ?_), hD.o (fun k => ?_), hN.o (fun k => ?_)⟩, ⟨a1.o (fun k => f3 _ _ (by omega) (by omega)), (f3 _ _ (by omega) (by omega)).trans a2⟩, fun t ht => ?_, e3, e4, e2⟩ (fun o k g => ?_) (fun o g => ?_)
  · rw [f3 _ _ (by omega) (by omega), a3 _ _ (by omega) (by omega)]
  · rw [f3 _ _ (by omega) (by omega), a3 _ _ (by omega) (by omega)]
  · rw [f3 _ _ (by omega) (by omega), a3 _ _ (by omega) (by omega)]
  · rw [e5 _ _ (by omega)]; exact b2 t ht
  · rw [f3 _ _ (by omega) (by omega), a3 _ _ (by omega) (by omega)]
  · rw [e6 _ g, c3 _ (by omega)]
end CRD
section CRD2
variable {d : Nat} {P : am_O → Prop} {Pf : am_R} {n r : Nat} {b : Nat → Int32}
/-- the reader and the rules that it fills -/
def rdPf (Pf : am_R) (r : Nat) : am_R := am_u (am_u Pf 3 0 (some 1)) 3 1 (some r)
theorem rdPf_hp (hp : am_PF Pf) : am_PF (rdPf Pf r) := (hp.set (by decide)).set (by decide)
theorem sc_readall (hp : am_PF Pf) (hr : r = 16 ∨ r = 55) (hb0 : ∀ k, b k ≠ -1) {I : am_I} {J : am_J} (hb : I 2 = b) (h : RD I n 0) (h5 : I 1 5 = 0) (h4 : I 1 4 = 0) {T : Nat → Int32}
    (kk : rm3 (mGram b n T) (fun e => e.2.1 ≤ 600 → e.2.2 ≤ 60 → ∀ I' J', I' 1 5 = ni e.1 → I' 1 6 = ni e.2.1 → I' 3 2 = ni e.2.2 → cFl r I I' → cJr r J J' → P (.inl (some (.int 0)), (am_SH, I', J', rdPf Pf r), 0, 0)) (fun w => WG w → sndW w → ∀ I' J', cG r I' J' w → cSo r I' J' w → cFl r I I' → cJr r J J' → P (.inl (some (.int 1)), (am_SH, I', J', rdPf Pf r), 0, 0))) :
    am_mth (d + 42) 21 [.ref 3, .ref 1, .ref r] (am_SH, I, J, Pf) P := by
  have hp2 := rdPf_hp (r := r) hp
  have hrs := rul_sh hr
  have hO := cO_le hr
  have h31 : rdPf Pf r 3 1 = some r := by simp [rdPf, am_u]
  have h30 : rdPf Pf r 3 0 = some 1 := by simp [rdPf, am_u]
  have hn6 := h.2.2.2
  refine am_mth_of rfl rfl (v21_0 hp hrs ⟨r, h31, hrs, ?_⟩)
  show am_mth (d + 41) 67 [.ref r] (am_SH, I, J, rdPf Pf r) _
  refine am_mth_of rfl rfl (v67_0 hp2 hrs (am_back (v21_17 hp2 ?_)))
  have hag : agr w0 (w0T T) := fun i hi => if_pos hi
  have hW0 := WG_w0.agr hag
  have e0 : ∀ i, i < 5 → w0T T i = 0 := fun i hi => by rw [hag i (by omega)]; unfold w0; rw [fu_n (by omega)]
  have n0 : ∀ i, i < 5 → wN (w0T T) i = 0 := fun i hi => by unfold wN; rw [e0 i hi]; rfl
  have e5 : w0T T 5 = -1 := by rw [hag 5 (by omega)]; exact fu_s
  obtain ⟨S, eS⟩ : ∃ S, S = am_u (am_u (am_u (am_u (am_u (am_u (am_u I r 1 0) r 2 0) r 9 0) r 13 0) r 16 0) r 19 (-1)) 3 2 0 := ⟨_, rfl⟩
  rw [← eS]
  have sF : ∀ o k, ¬ (o = 3 ∧ k = 2) → o ≠ r → S o k = I o k := fun o k g1 g2 => by rw [eS, am_u_nq (by omega), am_u_nq (by omega), am_u_nq (by omega), am_u_nq (by omega), am_u_nq (by omega), am_u_nq (by omega), am_u_nq (by omega)]
  have sFl : cFl r I S := fun o k _ g2 _ g4 => sF o k g2 (by omega)
  have sG : cG r S J (w0T T) := by
    refine ⟨⟨?_, ?_, ?_, ?_, ?_, ?_⟩, fun c hc => ?_, fun c hc => ?_, fun c hc => ?_, fun c hc => ?_, fun c hc => ?_⟩
    · rw [e0 0 (by omega), eS, am_u_nq (by omega), am_u_nq (by omega), am_u_nq (by omega), am_u_nq (by omega), am_u_nq (by omega), am_u_nq (by omega), am_u_same]
    · rw [e0 1 (by omega), eS, am_u_nq (by omega), am_u_nq (by omega), am_u_nq (by omega), am_u_nq (by omega), am_u_nq (by omega), am_u_same]
    · rw [e0 2 (by omega), eS, am_u_nq (by omega), am_u_nq (by omega), am_u_nq (by omega), am_u_nq (by omega), am_u_same]
    · rw [e0 3 (by omega), eS, am_u_nq (by omega), am_u_nq (by omega), am_u_nq (by omega), am_u_same]
    · rw [e0 4 (by omega), eS, am_u_nq (by omega), am_u_nq (by omega), am_u_same]
    · rw [e5, eS, am_u_nq (by omega), am_u_same]
    · rw [n0 0 (by omega)] at hc; omega
    · rw [n0 1 (by omega)] at hc; omega
    · rw [n0 2 (by omega)] at hc; omega
    · rw [n0 3 (by omega)] at hc; omega
    · rw [n0 4 (by omega)] at hc; omega
  have sX : cGxs S (w0T T) := fun d hd => by rw [n0 4 (by omega)] at hd; omega
  have sRD : RD S n 0 := ⟨by rw [sF _ _ (by omega) (by omega)]; exact h.1, by rw [sF _ _ (by omega) (by omega)]; exact h.2.1, h.2.2.1, h.2.2.2⟩
  refine cr_clauses (d := d) hp2 h30 h31 hr hb0 62 S J 0 0 (w0T T) (by omega) (by omega) (by funext k; rw [sF _ _ (by omega) (by omega), hb]) hW0 sG sX sRD (by rw [sF _ _ (by omega) (by omega)]; exact h5) (by rw [sF _ _ (by omega) (by omega)]; exact h4) (by rw [eS, am_u_same]; rfl) ?_
  unfold mGram at kk
  cases hm : mClauses b n 62 (w0T T) 0 0 with
  | inl e =>
    rw [hm] at kk
    exact fun e1 e2 I' J' hF hcl => kk e2 e1 I' J' hF.1 hF.2.1 hcl (sFl.trans hF.2.2.1) hF.2.2.2
  | inr w =>
    rw [hm] at kk
    intro hGw I1 J1 f1 f2 f5 f3 f4
    refine v21_79 hp2 ⟨r, h31, hrs, ?_⟩
    refine sc_needs (d0 := d + 39) hp2 hr hGw f3 (fun I2 g1 g2 g3 g4 => am_back (v21_93 hp2 ?_))
    have f32 : cG r I2 J1 w := f3.of2 (fun o k e1 e2 => g4 _ _ (by omega) (by omega) (by omega)) (fun _ _ => rfl)
    have f42 : cGxs I2 w := fun d hd => (f4 d hd).of (g4 _ _ (by omega) (by omega) (by omega)) (g4 _ _ (by omega) (by omega) (by omega)) (fun _ _ => rfl)
    have l2 : cFl r I I2 := (sFl.trans f1).trans (fun o k _ _ _ e => g4 _ _ (by omega) (by omega) (by omega))
    refine sc_drops (d0 := d + 39) hp2 h30 h31 hr hGw f32 f42 g3 (by rw [g4 _ _ (by omega) (by omega) (by omega)]; exact f5) ?_
    dsimp only at kk
    cases hd : dF (badD w) (wN w 4) 0 with
    | some dd =>
      rw [hd] at kk
      obtain ⟨z1, z2, z3⟩ := dF_some _ _ _ hd
      obtain ⟨sx, tx, pl, cl, -, -, -, q1, q2, -, -, q3, q4⟩ := hGw.2.2.2.2.1 dd (by have := hGw.1.2.2.2.2.1.2; omega)
      have n3 : wN w (1008 + 4 * dd + 2) = pl := by unfold wN; rw [q3]; exact ni_nat (by omega)
      have n4 : wN w (1008 + 4 * dd + 3) = cl := by unfold wN; rw [q4]; exact ni_nat (by omega)
      intro I3 h1 h2 h3 h4
      refine am_back (v21_97 hp2 ?_)
      rw [if_pos rfl]
      dsimp only [rm3] at kk
      rw [n3, n4] at kk
      refine kk q1 q2 I3 J1 h2 (by rw [h3, q3]) (by rw [h1, q4]) (l2.trans (fun o k e1 e2 _ _ => h4 _ _ e2 (by omega))) f2
    | none =>
      rw [hd] at kk
      have hs := sndW_of hd
      refine am_back (v21_97 hp2 ?_)
      rw [if_neg (by decide)]
      refine ⟨r, h31, hrs, sc_rest (d0 := d + 37) hp2 hr hGw hs f32 g1 g2 g3 (fun I3 J3 h1 h2 h3 h4 => am_back (v21_116 hp2 ?_))⟩
      exact kk hGw hs I3 J3 h1 h2 (l2.trans (fun o k _ _ _ e => h3 _ _ (by omega))) (f2.trans (fun o e1 e2 => h4 _ (by omega)))
end CRD2
