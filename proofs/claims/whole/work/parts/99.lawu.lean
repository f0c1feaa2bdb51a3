/-! A law's text: the class reads units, and all -/
def lwUnit (b : Nat → Int32) (n : Nat) (s : LW → Nat → (Nat × Nat) ⊕ (LW × Nat)) (o : Nat) (L : LW) (a : Nat) : (Nat × Nat) ⊕ (LW × Nat) :=
    if isDg (hz b n (rsk b n a)) = true then rb (mNum b n 1000 a) (fun z => .inr (lwAdd L 0 z.1, z.2))
    else if hz b n (rsk b n a) = 40 then (if o = 6 then .inl (3, rsk b n a) else rb (s L (rsk b n a + 1)) (fun z => rb (mTake b n 41 z.2) (fun e => .inr (z.1, e))))
    else if nmB b (rsk b n a) (mNE b n a) (am_sb 7) = true then (if o = 6 then .inl (3, rsk b n a) else lwPair b n s 6 L (mNE b n a))
    else if nmB b (rsk b n a) (mNE b n a) (am_sb 8) = true then (if o = 6 then .inl (3, rsk b n a) else lwPair b n s 7 L (mNE b n a))
    else if fcN b (rsk b n a) (mNE b n a) = 0 then .inl (1, rsk b n a) else .inr (lwAdd L 1 (fcN b (rsk b n a) (mNE b n a) - 1), mNE b n a)
theorem mLw_unit {b : Nat → Int32} {n F o m : Nat} {L : LW} {a : Nat} : mLw b n (F + 1) o (m + 2) L a = lwUnit b n (mLw b n F (o + 1) 0) o L a := rfl
section LWU
variable {b : Nat → Int32} {n x : Nat} {J : am_J} {Pf : am_R}
theorem sc_unit (hp : am_PF Pf) (hx : am_SH[x]? = some (.inl 2)) (h4 : Pf x 4 = some 1) (hx7 : 7 < x) (hx9 : x < 203) {s : LW → Nat → (Nat × Nat) ⊕ (LW × Nat)} {d o a : Nat} (hn : n ≤ 150) {P : am_O → Prop} (ho : o ≤ 6)
    (hok : ∀ L a z, a ≤ n → s L a = .inr z → lwOk n L a z)
    (hu : o < 6 → ∀ (D : Nat) (I : am_I) (L : LW) (a1 : Nat) (Q : am_O → Prop), d + 8 ≤ D → a < a1 → I 2 = b → RD I n a1 → I 1 5 = 0 → I 1 4 = ni (o + 1) → cLw x I L → L.1 ≤ a1 → rm2 (s L a1) (fun z => ∀ I', RD I' n z.2 → cLs x I I' → cLw x I' z.1 → Q (.inl (some (.int 1)), (am_SH, I', J, Pf), 0, 0)) (fun kd pl => ∀ I', cLf x I I' kd pl → pl ≤ 600 → Q (.inl (some (.int 0)), (am_SH, I', J, Pf), 0, 0)) → am_mth D 43 [.ref x, .int (ni (o + 1))] (am_SH, I, J, Pf) Q)
    {I : am_I} {L : LW} (hb : I 2 = b) (h : RD I n a) (h5 : I 1 5 = 0) (h14 : I 1 4 = ni o) (hL : cLw x I L) (hLa : L.1 ≤ a)
    (kk : rm2 (lwUnit b n s o L a) (fun z => ∀ I', RD I' n z.2 → cLs x I I' → cLw x I' z.1 → P (.inl (some (.int 1)), (am_SH, I', J, Pf), 0, 0)) (fun kd pl => ∀ I', cLf x I I' kd pl → pl ≤ 600 → P (.inl (some (.int 0)), (am_SH, I', J, Pf), 0, 0))) :
    am_mth (d + 10) 45 [.ref x, .int (ni o)] (am_SH, I, J, Pf) P := by
  have han := h.2.2.1
  have hq := rsk_le (b := b) han
  have hqq := rsk_rsk (b := b) han
  have hne := mNE_le (b := b) han
  have hR := h.at hq.2
  have n14 : ∀ v : Int32, am_u I 1 3 v 1 4 + 1 = ni (o + 1) := fun v => by rw [am_u_nq (by omega), h14, ni_p1]
  have s0 : ∀ v : Int32, cLs x I (am_u I 1 3 v) := fun v => cLs.rfl'.rd (by omega)
  have eNE : mNE b n (rsk b n a) = mNE b n a := by unfold mNE; rw [hqq]
  unfold lwUnit at kk
  refine am_mth_of rfl rfl (v45_0 hp hx ⟨h4, sp_rd_hbb (d := d + 8) hp h (am_back (v45_7 hp hx ?_))⟩)
  rw [hb]
  have b2' : am_u I 1 3 (ni (rsk b n a)) 2 = b := (am_u_o (by omega)).trans hb
  have b5 : am_u I 1 3 (ni (rsk b n a)) 1 5 = 0 := by rw [am_u_nq (by omega)]; exact h5
  have bL : cLw x (am_u I 1 3 (ni (rsk b n a))) L := hL.s4 hx7
  have h40 := hv_hz (b := b) (n := n) (a := rsk b n a) (x := 40) (by decide) (by decide)
  -- a bracket
  have BR : ¬ isDg (hz b n (rsk b n a)) = true → hv b n (rsk b n a) = 40 → Pf x 4 = some 1 ∧ if am_u I 1 3 (ni (rsk b n a)) 1 4 + 1 ≤ 6 then am_mth (d + 9) 43 [.ref x, .int (ni o + 1)] (am_SH, am_u (am_u (am_u I 1 3 (ni (rsk b n a))) 1 4 (am_u I 1 3 (ni (rsk b n a)) 1 4 + 1)) 1 3 (am_u I 1 3 (ni (rsk b n a)) 1 3 + 1), J, Pf) (am_af none (d + 9) 45 85 [some (.ref x), some (.int (ni o)), some (.int (hv b n (rsk b n a))), none] [.int (ni o + 1), .ref x] [] (am_SH, am_u (am_u (am_u I 1 3 (ni (rsk b n a))) 1 4 (am_u I 1 3 (ni (rsk b n a)) 1 4 + 1)) 1 3 (am_u I 1 3 (ni (rsk b n a)) 1 3 + 1), J, Pf) 0 0 true P) else if am_u I 1 3 (ni (rsk b n a)) 1 5 = 0 then P (.inl (some (.int 0)), (am_SH, am_u (am_u (am_u (am_u I 1 3 (ni (rsk b n a))) 1 4 (am_u I 1 3 (ni (rsk b n a)) 1 4 + 1)) 1 5 3) 1 6 (am_u I 1 3 (ni (rsk b n a)) 1 3), J, Pf), 0, 0) else P (.inl (some (.int 0)), (am_SH, am_u (am_u I 1 3 (ni (rsk b n a))) 1 4 (am_u I 1 3 (ni (rsk b n a)) 1 4 + 1), J, Pf), 0, 0) := by
    intro cd c40
    have z40 := h40.mp c40
    have hlt := hz_0 z40 (by decide)
    rw [if_neg cd, if_pos z40] at kk
    refine ⟨h4, ?_⟩
    rw [n14]
    by_cases c6 : o = 6
    · rw [if_pos c6] at kk
      rw [if_neg (fun z => absurd ((lle 6 (by omega) (by omega)).mp z) (by omega)), if_pos b5]
      refine kk _ ⟨?_, ?_, fun o k e1 _ _ _ => ?_⟩ (by show rsk b n a ≤ 600; omega)
      · rw [am_u_nq (by omega), am_u_same]; rfl
      · rw [am_u_same, am_u_same]
      · rw [am_u_nq (by omega), am_u_nq (by omega), am_u_nq (by omega), am_u_nq (by omega)]
    rw [if_neg c6] at kk
    rw [if_pos ((lle 6 (by omega) (by omega)).mpr (by omega)), am_u_same, ni_p1, ni_p1]
    obtain ⟨I0, eI0⟩ : ∃ I0, I0 = am_u (am_u (am_u I 1 3 (ni (rsk b n a))) 1 4 (ni (o + 1))) 1 3 (ni (rsk b n a + 1)) := ⟨_, rfl⟩
    rw [← eI0]
    have z2 : I0 2 = b := by rw [eI0, am_u_o (by omega), am_u_o (by omega), am_u_o (by omega)]; exact hb
    have zR : RD I0 n (rsk b n a + 1) := by
      rw [eI0]
      exact ⟨by rw [am_u_nq (by omega), am_u_nq (by omega), am_u_nq (by omega)]; exact h.1, am_u_same, by omega, h.2.2.2⟩
    have z5 : I0 1 5 = 0 := by rw [eI0, am_u_nq (by omega), am_u_nq (by omega), am_u_nq (by omega)]; exact h5
    have z4 : I0 1 4 = ni (o + 1) := by rw [eI0, am_u_nq (by omega), am_u_same]
    have zL : cLw x I0 L := by rw [eI0]; exact ((hL.s4 hx7).s4 hx7).s4 hx7
    have zg : cLg x I I0 := by rw [eI0]; exact fun o k e1 _ _ _ => by rw [am_u_nq (by omega), am_u_nq (by omega), am_u_nq (by omega)]
    refine hu (by omega) (d + 9) I0 L (rsk b n a + 1) _ (by omega) (by omega) z2 zR z5 z4 zL (by omega) ?_
    cases hm : s L (rsk b n a + 1) with
    | inl e =>
      rw [hm] at kk
      intro I' hF hpl
      refine am_back (v45_88 hp hx ?_)
      rw [if_pos rfl]
      exact kk I' (hF.after2 zg) hpl
    | inr z =>
      rw [hm] at kk
      dsimp only [rb] at kk
      intro I1 hR1 hs1 hL1
      refine am_back (v45_88 hp hx ?_)
      rw [if_neg (by decide)]
      have p2 : I1 2 = b := by rw [← z2]; funext k; exact hs1 _ _ (by omega) (by omega)
      have p5 : I1 1 5 = 0 := by rw [hs1 _ _ (by omega) (by omega)]; exact z5
      have p4 : I1 1 4 = ni (o + 1) := by rw [hs1 _ _ (by omega) (by omega)]; exact z4
      refine ⟨h4, sc_take (r := 1000) (d := d + 7) hp (by decide) (by decide) hR1 p5 ?_⟩
      rw [p2]
      cases h3 : mTake b n 41 z.2 with
      | inl e =>
        rw [h3] at kk
        intro I' hF hpl
        refine am_back (v45_100 hp hx ?_)
        rw [if_pos rfl]
        exact kk I' (hF.lf.after2 (zg.trans hs1.g)) hpl
      | inr e3 =>
        rw [h3] at kk
        intro I2 hR2 hf2 _ _
        refine am_back (v45_100 hp hx ?_)
        rw [if_neg (by decide)]
        refine ⟨h4, ?_⟩
        have e14 : I2 1 4 - 1 = I 1 4 := by rw [hf2 _ _ (by omega), p4, h14]; exact ni_sub (a := o + 1) (b := 1) (by omega)
        rw [e14]
        refine kk _ ⟨(am_u_nq (by omega)).trans hR2.1, (am_u_nq (by omega)).trans hR2.2.1, hR2.2.2⟩ (fun o k e1 e2 => ?_) ((hL1.s hf2.ls hx7 (fun o k e1 e2 => hf2 _ _ (by omega))).s4 hx7)
        by_cases c : o = 1 ∧ k = 4
        · obtain ⟨rfl, rfl⟩ := c; exact am_u_same
        · rw [am_u_nq (by omega), hf2 _ _ (by omega), hs1 _ _ e1 e2, eI0, am_u_nq (by omega), am_u_nq (by omega), am_u_nq (by omega)]
  -- a name
  have NM : ¬ isDg (hz b n (rsk b n a)) = true → ¬ hv b n (rsk b n a) = 40 → ∀ l2 : Option Value, am_k1 l2 = true → am_mth (d + 9) 59 [.ref 1] (am_SH, am_u I 1 3 (ni (rsk b n a)), J, Pf) (am_af none (d + 9) 45 118 [some (.ref x), some (.int (ni o)), l2, none] [.ref 1] [] (am_SH, am_u I 1 3 (ni (rsk b n a)), J, Pf) 0 0 false P) := by
    intro cd c40 l2 hl2
    rw [if_neg cd, if_neg (fun z => c40 (h40.mpr z))] at kk
    have hall : ∀ {t : List Int32}, 1 ≤ t.length → nmB b (rsk b n a) (mNE b n a) t = true → rsk b n a < mNE b n a := fun h1 c => by have := nmB_at c h1; omega
    refine sp_rd_takeName (d := d + 7) hp hR ?_ ?_
    · rw [b2', hqq]
      intro hlt
      refine am_back (v45_121 hp hx ?_)
      rw [if_neg (by decide)]
      show Pf x 4 = some 1 ∧ am_mth (d + 9) 60 [.ref 1, .retAddr 9] (am_SH, am_u (am_u (am_u I 1 3 (ni (rsk b n a))) 1 7 (ni (rsk b n a))) 1 3 (ni (mNE b n a)), J, Pf) _
      obtain ⟨I0, eI0⟩ : ∃ I0, I0 = am_u (am_u (am_u I 1 3 (ni (rsk b n a))) 1 7 (ni (rsk b n a))) 1 3 (ni (mNE b n a)) := ⟨_, rfl⟩
      rw [← eI0]
      have z2 : I0 2 = b := by rw [eI0, am_u_o (by omega), am_u_o (by omega), am_u_o (by omega)]; exact hb
      have zR : RD I0 n (mNE b n a) := by
        rw [eI0]
        exact ⟨by rw [am_u_nq (by omega), am_u_nq (by omega), am_u_nq (by omega)]; exact h.1, am_u_same, hne.2, h.2.2.2⟩
      have z5 : I0 1 5 = 0 := by rw [eI0, am_u_nq (by omega), am_u_nq (by omega), am_u_nq (by omega)]; exact h5
      have z4 : I0 1 4 = ni o := by rw [eI0, am_u_nq (by omega), am_u_nq (by omega), am_u_nq (by omega)]; exact h14
      have z7 : I0 1 7 = ni (rsk b n a) := by rw [eI0, am_u_nq (by omega), am_u_same]
      have zL : cLw x I0 L := by rw [eI0]; exact ((hL.s4 hx7).s4 hx7).s4 hx7
      have zs : cLs x I I0 := by rw [eI0]; exact ((cLs.rfl'.rd (by omega)).rd (by omega)).rd (by omega)
      have hlt' : rsk b n a < mNE b n a := hlt
      refine ⟨h4, sp_rd_isNamed (d := d + 4) hp zR z7 hne.1 rfl (am_back (v45_135 hp hx ?_))⟩
      rw [z2, show 9 - 2 = 7 from rfl]
      -- a pair
      have PR : ∀ (kd0 kI pc : Nat) (l2 : Option Value), cK kd0 = kI → (pc = 141 ∨ pc = 160) → rm2 (if o = 6 then .inl (3, rsk b n a) else lwPair b n s kd0 L (mNE b n a)) (fun z => ∀ I', RD I' n z.2 → cLs x I I' → cLw x I' z.1 → P (.inl (some (.int 1)), (am_SH, I', J, Pf), 0, 0)) (fun kd pl => ∀ I', cLf x I I' kd pl → pl ≤ 600 → P (.inl (some (.int 0)), (am_SH, I', J, Pf), 0, 0)) → am_mth (d + 9) 46 [.ref x, .int (ni kI), .int (ni o)] (am_SH, I0, J, Pf) (am_af none (d + 9) 45 pc [some (.ref x), some (.int (ni o)), l2, none] [.int (ni o), .int (ni kI), .ref x] [] (am_SH, I0, J, Pf) 0 0 true P) := by
        intro kd0 kI pc l2 hkI hpc kk
        refine sc_pair (a0 := a) hp hx h4 hx7 hn hkI ho hok hu (by omega) z2 zR z5 z4 zL (by omega) z7 (by omega) ?_
        have back : ∀ (v : Int32) (I' : am_I), (v = 0 ∨ v = 1) → P (.inl (some (.int v)), (am_SH, I', J, Pf), 0, 0) → am_af none (d + 9) 45 pc [some (.ref x), some (.int (ni o)), l2, none] [.int (ni o), .int (ni kI), .ref x] [] (am_SH, I0, J, Pf) 0 0 true P (.inl (some (.int v)), (am_SH, I', J, Pf), 0, 0) := by
          intro v I' hv k
          rcases hpc with rfl | rfl
          · exact am_back (v45_144 hp ⟨hv, k⟩)
          · exact am_back (v45_163 hp ⟨hv, k⟩)
        revert kk
        generalize (if o = 6 then Sum.inl (3, rsk b n a) else lwPair b n s kd0 L (mNE b n a) : (Nat × Nat) ⊕ (LW × Nat)) = mm
        cases mm with
        | inl e => exact fun kk I' hF hpl => back 0 I' (Or.inl rfl) (kk I' (hF.after zs) hpl)
        | inr z => exact fun kk I' g1 g2 g3 => back 1 I' (Or.inr rfl) (kk I' g1 (zs.trans g2) g3)
      by_cases c7 : nmB b (rsk b n a) (mNE b n a) (am_sb 7) = true
      · rw [if_pos c7] at kk
        rw [c7, if_neg (show ¬ b2 true = 0 by decide)]
        exact PR 6 2 141 l2 rfl (Or.inl rfl) kk
      rw [if_neg c7] at kk
      rw [(Bool.not_eq_true _).mp c7, if_pos (show b2 false = 0 from rfl)]
      refine ⟨h4, sp_rd_isNamed (d := d + 4) hp zR z7 hne.1 rfl (am_back (v45_154 hp hx ?_))⟩
      rw [z2, show 10 - 2 = 8 from rfl]
      by_cases c8 : nmB b (rsk b n a) (mNE b n a) (am_sb 8) = true
      · rw [if_pos c8] at kk
        rw [c8, if_neg (show ¬ b2 true = 0 by decide)]
        exact PR 7 3 160 l2 rfl (Or.inr rfl) kk
      rw [if_neg c8] at kk
      rw [(Bool.not_eq_true _).mp c8, if_pos (show b2 false = 0 from rfl)]
      refine sc_fact (d := d + 3) hp hx h4 zR z7 hne.1 (am_back (v45_168 hp hx hl2 ?_))
      rw [z2]
      by_cases c0 : fcN b (rsk b n a) (mNE b n a) = 0
      · rw [if_pos c0] at kk
        rw [c0, if_pos (show fcV 0 = -1 from rfl), if_pos z5]
        refine ⟨h4, kk _ ⟨?_, ?_, fun o k e1 e2 e3 e4 => ?_⟩ (by show rsk b n a ≤ 600; omega)⟩
        · rw [am_u_nq (by omega), am_u_same]; rfl
        · rw [am_u_same, z7]
        · rw [am_u_nq (by omega), am_u_nq (by omega)]; exact zs.g o k e1 e2 e3 e4
      · rw [if_neg c0] at kk
        have f6 := (fcN_lt c0).2
        have ef : fcV (fcN b (rsk b n a) (mNE b n a)) = ni (fcN b (rsk b n a) (mNE b n a) - 1) := if_neg c0
        rw [ef, if_neg (ni_neg1 (by omega)), if_pos (show I0 x 2 < 150 by rw [zL.1]; exact (llt 150 (by omega) (by omega)).mpr (by omega))]
        obtain ⟨q1, q2, q3, q4, q5⟩ := zL.add (k := 1) (v := fcN b (rsk b n a) (mNE b n a) - 1) hx7 (by omega)
        exact ⟨q1, q2 _, kk (lwUp x I0 (ni (cK 1)) (ni (fcN b (rsk b n a) (mNE b n a) - 1))) (zR.of q5) (zs.trans q4) q3⟩
    · rw [b2', hqq]
      intro hlt
      refine am_back (v45_121 hp hx ?_)
      rw [if_pos rfl]
      have hlt' : ¬ rsk b n a < mNE b n a := hlt
      have sb7 : (am_sb 7).length = 5 := by decide +kernel
      have sb8 : (am_sb 8).length = 4 := by decide +kernel
      rw [if_neg (fun c => hlt' (hall (by omega) c)), if_neg (fun c => hlt' (hall (by omega) c)), if_pos (by
        by_cases c : fcN b (rsk b n a) (mNE b n a) = 0
        · exact c
        · exact absurd (fcN_lt c).1 hlt')] at kk
      have eqq : ltF b (n - rsk b n a) (rsk b n a) = rsk b n a := by
        have : mNE b n a = rsk b n a := by omega
        exact this
      rw [eqq]
      refine kk _ ((cFF.fail (r := 1000) (J := J) (I := I) ((((cRd.rfl'.u (by omega)).u (by omega)).u (by omega)).fr) cJr.rfl' ?_).lf) (by show rsk b n a ≤ 600; omega)
      rw [am_u_nq (by omega), am_u_nq (by omega), am_u_nq (by omega)]; exact h5
  have dg := isDg_d (x := hv b n (rsk b n a))
  rw [isDg_hv] at dg
  by_cases q1 : hv b n (rsk b n a) < 48
  · have cd : ¬ isDg (hz b n (rsk b n a)) = true := fun z => (dg.mp z).1 q1
    rw [if_pos q1]
    by_cases c40 : hv b n (rsk b n a) = 40
    · rw [if_pos c40]; exact BR cd c40
    · rw [if_neg c40]; exact ⟨h4, NM cd c40 _ rfl⟩
  rw [if_neg q1]
  by_cases q2 : 57 < hv b n (rsk b n a)
  · have cd : ¬ isDg (hz b n (rsk b n a)) = true := fun z => (dg.mp z).2 q2
    rw [if_pos q2]
    by_cases c40 : hv b n (rsk b n a) = 40
    · rw [if_pos c40]; exact BR cd c40
    · rw [if_neg c40]; exact ⟨h4, NM cd c40 _ rfl⟩
  rw [if_neg q2]
  rw [if_pos (dg.mpr ⟨q1, q2⟩)] at kk
  refine ⟨h4, sc_num (r := 1000) (lim := 1000) (d := d + 7) hp (by omega) hR b5 ?_⟩
  rw [b2']
  have eN : mNum b n 1000 (rsk b n a) = mNum b n 1000 a := by unfold mNum; rw [hqq]
  rw [eN]
  cases hm : mNum b n 1000 a with
  | inl e =>
    rw [hm] at kk
    intro I' hF hpl
    have hlf : cLf x I I' e.1 e.2 := hF.lf.after (s0 _)
    have hL' : cLw x I' L := by
      have e0 : ∀ o k, x ≤ o → o ≤ x + 3 → I' o k = I o k := fun o k e1 e2 => by rw [hF.2.2.1 o k (by omega) (by omega) (by omega) (by omega), am_u_nq (by omega)]
      exact ⟨by rw [e0 _ _ (by omega) (by omega)]; exact hL.1, fun i hi => by rw [e0 _ _ (by omega) (by omega), e0 _ _ (by omega) (by omega)]; exact hL.2 i hi⟩
    have dn := (dg.mpr ⟨q1, q2⟩)
    have hlt : rsk b n a < n := by
      by_cases c : rsk b n a < n
      · exact c
      · unfold hz at dn
        rw [if_neg c] at dn
        exact absurd dn (by decide)
    refine am_back (v45_25 hp hx rfl ?_)
    rw [if_pos (show I' x 2 < 150 by rw [hL'.1]; exact (llt 150 (by omega) (by omega)).mpr (by omega)), if_pos rfl]
    refine ⟨by rw [hL'.1]; exact ni_in (by omega) (by omega), ?_, kk (lwUp x I' 0 (-1)) ⟨?_, ?_, fun o k e1 e2 e3 e4 => ?_⟩ hpl⟩
    · rw [am_u_nq (by omega), hL'.1]; exact ni_in (by omega) (by omega)
    · rw [lwUp_o (by omega)]; exact hlf.1
    · rw [lwUp_o (by omega)]; exact hlf.2.1
    · rw [lwUp_o (by omega)]; exact hlf.2.2 o k e1 e2 e3 e4
  | inr z =>
    rw [hm] at kk
    dsimp only [rb] at kk
    have z1 := mNum_lt hm
    have z3 := mNum_le han hm
    intro I' hR' hf _ _
    have sI : cLs x I I' := (s0 _).trans hf.ls
    have hL' : cLw x I' L := bL.s hf.ls hx7 (fun o k e1 e2 => hf _ _ (by omega))
    refine am_back (v45_25 hp hx rfl ?_)
    obtain ⟨q1, q2, q3, q4, q5⟩ := hL'.add (k := 0) (v := z.1) hx7 (by omega)
    rw [if_pos (show I' x 2 < 150 by rw [hL'.1]; exact (llt 150 (by omega) (by omega)).mpr (by omega)), if_neg (ni_neg1 (by omega))]
    exact ⟨q1, q2 _, kk (lwUp x I' (ni (cK 0)) (ni z.1)) (hR'.of q5) (sI.trans q4) q3⟩
/-- a sum, a product, a unit -/
theorem sc_lw (hp : am_PF Pf) (hx : am_SH[x]? = some (.inl 2)) (h4 : Pf x 4 = some 1) (hx7 : 7 < x) (hx9 : x < 203) (hn : n ≤ 150) : ∀ (F m o a d : Nat) (I : am_I) (L : LW) (P : am_O → Prop), m ≤ 2 → 3 * (n - a) + (3 - m) ≤ F → o ≤ 6 → 12 + 4 * (6 - o) + (2 - m) ≤ d → I 2 = b → RD I n a → I 1 5 = 0 → I 1 4 = ni o → cLw x I L → L.1 ≤ a →
    rm2 (mLw b n F o m L a) (fun z => ∀ I', RD I' n z.2 → cLs x I I' → cLw x I' z.1 → P (.inl (some (.int 1)), (am_SH, I', J, Pf), 0, 0)) (fun kd pl => ∀ I', cLf x I I' kd pl → pl ≤ 600 → P (.inl (some (.int 0)), (am_SH, I', J, Pf), 0, 0)) →
    am_mth d (43 + m) [.ref x, .int (ni o)] (am_SH, I, J, Pf) P := by
  intro F
  induction F with
  | zero => intro m o a d I L P hm hF; omega
  | succ F ih =>
    intro m o a d I L P hm hF ho hd hb h h5 h14 hL hLa kk
    have han := h.2.2.1
    have hm3 : m = 0 ∨ m = 1 ∨ m = 2 := by omega
    rcases hm3 with rfl | rfl | rfl
    · obtain ⟨d, rfl⟩ : ∃ e, d = e + 3 := ⟨d - 3, by omega⟩
      unfold mLw at kk
      have un := fun (I : am_I) (L : LW) (a : Nat) (Q : am_O → Prop) (ha : 3 * (n - a) + 2 ≤ F) g2 gR g5 g4 gL gLa => ih 1 o a (d + 2) I L Q (by omega) (by omega) ho (by omega) g2 gR g5 g4 gL gLa
      refine am_mth_of rfl rfl (v43_0 hp hx ?_)
      rw [if_neg (fun z => absurd ((glt 6 (by omega) (by omega)).mp z) (by omega))]
      refine un I L a _ (by omega) hb h h5 h14 hL hLa ?_
      cases hm : mLw b n F o 1 L a with
      | inl e =>
        rw [hm] at kk
        intro I' hF' hpl
        refine am_back (v43_11 hp hx ?_)
        rw [if_pos rfl]
        exact kk I' hF' hpl
      | inr z =>
        rw [hm] at kk
        dsimp only [rb] at kk
        obtain ⟨k1, k2, k3⟩ := mLw_ok F o 1 L a z han hm
        intro I' hR' hs hL'
        refine am_back (v43_11 hp hx ?_)
        rw [if_neg (by decide), show (0 : Int32) = ni 0 from rfl]
        refine cr_S (d := d) (a0 := a + 1) hp hx h4 hx7 hn (fun L a z => mLw_ok F o 1 L a z) (fun I1 L1 a1 Q g1 g2 g3 g4 g5 g6 g7 kk => un I1 L1 a1 Q (by omega) g2 g3 g4 g5 g6 g7 kk) (n - z.2 + 1) I' z.1 z.2 0 _ (by omega) (by omega) ?_ hR' ?_ ?_ hL' (by omega) (by omega) ?_
        · rw [← hb]; funext k; exact hs _ _ (by omega) (by omega)
        · rw [hs _ _ (by omega) (by omega)]; exact h5
        · rw [hs _ _ (by omega) (by omega)]; exact h14
        · revert kk
          cases lwLoop b n (mLw b n F o 1) opS (n - z.2 + 1) z.1 z.2 with
          | inl e => exact fun kk I'' hF hpl => kk I'' (hF.after hs) hpl
          | inr y => exact fun kk I'' g1 g2 g3 => kk I'' g1 (hs.trans g2) g3
    · obtain ⟨d, rfl⟩ : ∃ e, d = e + 3 := ⟨d - 3, by omega⟩
      unfold mLw at kk
      have un := fun (I : am_I) (L : LW) (a : Nat) (Q : am_O → Prop) (ha : 3 * (n - a) + 1 ≤ F) g2 gR g5 g4 gL gLa => ih 2 o a (d + 2) I L Q (by omega) (by omega) ho (by omega) g2 gR g5 g4 gL gLa
      refine am_mth_of rfl rfl (v44_0 hp hx ?_)
      refine un I L a _ (by omega) hb h h5 h14 hL hLa ?_
      cases hm : mLw b n F o 2 L a with
      | inl e =>
        rw [hm] at kk
        intro I' hF' hpl
        refine am_back (v44_5 hp hx ?_)
        rw [if_pos rfl]
        exact kk I' hF' hpl
      | inr z =>
        rw [hm] at kk
        dsimp only [rb] at kk
        obtain ⟨k1, k2, k3⟩ := mLw_ok F o 2 L a z han hm
        intro I' hR' hs hL'
        refine am_back (v44_5 hp hx ?_)
        rw [if_neg (by decide), show (0 : Int32) = ni 0 from rfl]
        refine cr_P (d := d) (a0 := a + 1) hp hx h4 hx7 hn (fun L a z => mLw_ok F o 2 L a z) (fun I1 L1 a1 Q g1 g2 g3 g4 g5 g6 g7 kk => un I1 L1 a1 Q (by omega) g2 g3 g4 g5 g6 g7 kk) (n - z.2 + 1) I' z.1 z.2 0 _ (by omega) (by omega) ?_ hR' ?_ ?_ hL' (by omega) (by omega) ?_
        · rw [← hb]; funext k; exact hs _ _ (by omega) (by omega)
        · rw [hs _ _ (by omega) (by omega)]; exact h5
        · rw [hs _ _ (by omega) (by omega)]; exact h14
        · revert kk
          cases lwLoop b n (mLw b n F o 2) opP (n - z.2 + 1) z.1 z.2 with
          | inl e => exact fun kk I'' hF hpl => kk I'' (hF.after hs) hpl
          | inr y => exact fun kk I'' g1 g2 g3 => kk I'' g1 (hs.trans g2) g3
    · obtain ⟨d, rfl⟩ : ∃ e, d = e + 10 := ⟨d - 10, by omega⟩
      rw [mLw_unit] at kk
      exact sc_unit hp hx h4 hx7 hx9 hn ho (fun L a z => mLw_ok F (o + 1) 0 L a z) (fun ho6 D I1 L1 a1 Q g0 g1 g2 g3 g4 g5 g6 g7 kk => ih 0 (o + 1) a1 D I1 L1 Q (by omega) (by have := g3.2.2.1; omega) (by omega) (by omega) g2 g3 g4 g5 g6 g7 kk) hb h h5 h14 hL hLa kk
/-- a law's text: a fault, or its entries -/
def mLaw (b : Nat → Int32) (n : Nat) : (Nat × Nat) ⊕ LW := rb (mLw b n (3 * n + 3) 0 0 (0, fun _ => (0, 0)) 0) (fun z => if rsk b n z.2 = n then .inr z.1 else .inl (1, rsk b n z.2))
end LWU
