/-! WORK: the class reads its text -/
/-- what reading steps changes, from an entry on -/
def cSs (p : Nat) (I I' : am_I) : Prop := ∀ o k, ¬ (o = 1 ∧ (k = 3 ∨ k = 7 ∨ k = 8 ∨ k = 9)) → ¬ (o = 102 ∧ k = 4) → ¬ ((103 ≤ o ∧ o ≤ 105) ∧ p ≤ k) → ¬ (o = 106 ∧ 8 * p ≤ k) → I' o k = I o k
def cSg (I I' : am_I) : Prop := ∀ o k, ¬ (o = 1 ∧ 3 ≤ k) → ¬ (5 ≤ o ∧ o ≤ 7) → ¬ (1000 ≤ o ∧ o < 1039) → ¬ (o = 102 ∧ k = 4) → ¬ (103 ≤ o ∧ o ≤ 106) → I' o k = I o k
def cSf (I I' : am_I) (kd pl : Nat) : Prop := I' 1 5 = ni kd ∧ I' 1 6 = ni pl ∧ cSg I I'
theorem cSs.rfl' {p : Nat} {I : am_I} : cSs p I I := fun _ _ _ _ _ _ => rfl
theorem cSs.trans {p : Nat} {I I' I'' : am_I} (h : cSs p I I') (g : cSs p I' I'') : cSs p I I'' := fun o k e1 e2 e3 e4 => (g o k e1 e2 e3 e4).trans (h o k e1 e2 e3 e4)
theorem cSs.up {p q : Nat} {I I' : am_I} (h : cSs q I I') (hp : p ≤ q) : cSs p I I' := fun o k e1 e2 e3 e4 => h o k e1 e2 (by omega) (by omega)
theorem cSg.trans {I I' I'' : am_I} (h : cSg I I') (g : cSg I' I'') : cSg I I'' := fun o k e1 e2 e3 e4 e5 => (g o k e1 e2 e3 e4 e5).trans (h o k e1 e2 e3 e4 e5)
theorem cSs.g {p : Nat} {I I' : am_I} (h : cSs p I I') : cSg I I' := fun o k e1 e2 e3 e4 e5 => h o k (by omega) e4 (by omega) (by omega)
theorem cRd.ss {p : Nat} {I I' : am_I} (h : cRd I I') : cSs p I I' := fun o k e1 e2 e3 e4 => h o k e1
theorem cRd.sg {I I' : am_I} (h : cRd I I') : cSg I I' := fun o k e1 e2 e3 e4 e5 => h o k (by omega)
theorem cSf.after {I I' I'' : am_I} {kd pl : Nat} (h : cSf I' I'' kd pl) (g : cSg I I') : cSf I I'' kd pl := ⟨h.1, h.2.1, g.trans h.2.2⟩
theorem cFF.sf {I I' : am_I} {J J' : am_J} {kd pl : Nat} (h : cFF 1000 I I' J J' kd pl) : cSf I I' kd pl := ⟨h.1, h.2.1, fun o k e1 e2 e3 e4 e5 => h.2.2.1 o k e1 (by omega) e2 e3⟩
theorem rfail_sf {I I' : am_I} {kd pl : Nat} (h0 : I' 1 5 = 0) (g : cSg I I') : cSf I (rfail I' (ni kd) (ni pl)) kd pl := by
  unfold rfail
  rw [if_pos h0]
  exact ⟨by rw [am_u_nq (by omega)]; exact am_u_same, am_u_same, fun o k e1 e2 e3 e4 e5 => by rw [am_u_nq (by omega), am_u_nq (by omega)]; exact g o k e1 e2 e3 e4 e5⟩
section CWK
variable {b : Nat → Int32} {n : Nat} {J : am_J} {Pf : am_R}
theorem sc_stkind (hp : am_PF Pf) (h6 : Pf 102 6 = some 1) {P : am_O → Prop} {I : am_I} {q e d : Nat} (h : RD I n e) (h7 : I 1 7 = ni q) (hq : q ≤ e) (kk : P (.inl (some (.int (ni (stN (I 2) q e)))), (am_SH, I, J, Pf), 0, 0)) : am_mth (d + 7) 103 [.ref 102] (am_SH, I, J, Pf) P := by
  unfold stN at kk
  refine am_mth_of rfl rfl (v103_0 hp ⟨h6, sp_rd_isNamed (d := d + 1) hp h h7 hq rfl (am_back (v103_9 hp ?_))⟩)
  rw [show 17 - 2 = 15 from rfl]
  by_cases c1 : nmB (I 2) q e (am_sb 15) = true
  · rw [if_pos c1] at kk
    rw [c1, if_neg (show ¬ b2 true = 0 by decide)]
    exact kk
  rw [if_neg c1] at kk
  rw [(Bool.not_eq_true _).mp c1, if_pos (show b2 false = 0 from rfl)]
  refine ⟨h6, sp_rd_isNamed (d := d + 1) hp h h7 hq rfl (am_back (v103_23 hp ?_))⟩
  rw [show 18 - 2 = 16 from rfl]
  by_cases c2 : nmB (I 2) q e (am_sb 16) = true
  · rw [if_pos c2] at kk
    rw [c2, if_neg (show ¬ b2 true = 0 by decide)]
    exact kk
  rw [if_neg c2] at kk
  rw [(Bool.not_eq_true _).mp c2, if_pos (show b2 false = 0 from rfl)]
  refine ⟨h6, sp_rd_isNamed (d := d + 1) hp h h7 hq rfl (am_back (v103_37 hp ?_))⟩
  rw [show 19 - 2 = 17 from rfl]
  by_cases c3 : nmB (I 2) q e (am_sb 17) = true
  · rw [if_pos c3] at kk
    rw [c3, if_neg (show ¬ b2 true = 0 by decide)]
    exact kk
  rw [if_neg c3] at kk
  rw [(Bool.not_eq_true _).mp c3, if_pos (show b2 false = 0 from rfl)]
  refine ⟨h6, sp_rd_isNamed (d := d + 1) hp h h7 hq rfl (am_back (v103_51 hp ?_))⟩
  rw [show 20 - 2 = 18 from rfl]
  by_cases c4 : nmB (I 2) q e (am_sb 18) = true
  · rw [if_pos c4] at kk
    rw [c4, if_neg (show ¬ b2 true = 0 by decide)]
    exact kk
  rw [if_neg c4] at kk
  rw [(Bool.not_eq_true _).mp c4, if_pos (show b2 false = 0 from rfl)]
  exact kk
/-- a word of a step -/
theorem sc_wordst (hp : am_PF Pf) {P : am_O → Prop} {I : am_I} {a q d : Nat} (h : RD I n a) (h5 : I 1 5 = 0) (hq : q + 8 ≤ 1200)
    (kk : rm2 (mShort (I 2) n a) (fun z => ∀ I', RD I' n (z.2.2 + 1) → (∀ i, i < z.1.length → I' 106 (q + i) = z.1.getD i 0) → (∀ o k, ¬ (o = 1 ∧ (k = 3 ∨ k = 9)) → ¬ (o = 106 ∧ q ≤ k) → I' o k = I o k) → P (.inl (some (.int (ni z.1.length))), (am_SH, I', J, Pf), 0, 0)) (fun kd pl => ∀ I', cSf I I' kd pl → pl ≤ 600 → P (.inl (some (.int (-1))), (am_SH, I', J, Pf), 0, 0))) :
    am_mth (d + 4) 65 [.ref 1, .ref 106, .int (ni q)] (am_SH, I, J, Pf) P := by
  have hr := rsk_le (b := I 2) h.2.2.1
  have hn := h.2.2.2
  unfold mShort mWord mTake at kk
  refine sp_rd_takeWord (L := 1200) hp h rfl (by omega) (by omega) hq (by omega) (fun c => ?_) (fun c => ?_)
  · have c2 : ¬ hz (I 2) n (rsk (I 2) n a) = 39 := fun z => c ((hv_hz (by decide) (by decide)).mpr z)
    rw [if_neg c2] at kk
    exact kk _ (rfail_sf (by rw [am_u_nq (by omega)]; exact h5) (fun o k e1 e2 e3 e4 e5 => am_u_nq (by omega))) (by omega)
  · have c2 := (hv_hz (by decide) (by decide)).mp c
    have hlt := hz_0 c2 (by decide)
    rw [if_pos c2] at kk
    dsimp only [rb] at kk
    have hle := wdL_le (b := I 2) (n := n) (n - (rsk (I 2) n a + 1)) (rsk (I 2) n a + 1) (by omega)
    rw [Nat.add_sub_cancel] at kk
    generalize wdL (I 2) n (n - (rsk (I 2) n a + 1)) (rsk (I 2) n a + 1) = y at *
    have g5' : ∀ (x y : Int32) (l : List Int32), am_rw (am_u (am_u I 1 9 x) 1 3 y) 106 (wrow (I 106) q l) 1 5 = 0 := fun x y l => by rw [am_rw_o (by omega), am_u_nq (by omega), am_u_nq (by omega)]; exact h5
    have gsf : ∀ (x y : Int32) (l : List Int32), cSg I (am_rw (am_u (am_u I 1 9 x) 1 3 y) 106 (wrow (I 106) q l)) := fun x y l o k e1 e2 e3 e4 e5 => by
      rw [am_rw_o (by omega), am_u_nq (by omega), am_u_nq (by omega)]
    refine ⟨fun e1 e2 e3 e4 => ?_, fun e1 e2 e3 => ?_, fun e => ?_⟩
    · rw [if_pos ⟨e1, e2, e3⟩] at kk
      dsimp only at kk
      rw [if_pos e4] at kk
      refine kk _ (RD.rw ((h.oth (by omega) (by omega)).at (Nat.succ_le_of_lt e2)) (by omega)) (fun i hi => ?_) (fun o k k1 k2 => ?_)
      · have hi' : i < y.1.length := hi
        rw [am_rw_s]
        unfold wrow
        rw [if_pos ⟨by omega, by omega⟩, show q + i - q = i by omega]
      · by_cases c : o = 106
        · subst c
          rw [am_rw_s]
          unfold wrow
          rw [if_neg (by omega)]
        · rw [am_rw_o c, am_u_nq (by omega), am_u_nq (by omega)]
    · rw [if_pos ⟨e1, e2, fun z => by rw [z] at e3; simp at e3⟩] at kk
      dsimp only at kk
      rw [if_neg (by omega)] at kk
      exact kk _ (rfail_sf (g5' _ _ _) (gsf _ _ _)) (by show y.2.1 ≤ 600; omega)
    · rw [if_neg (by
        rintro ⟨z1, z2, z3⟩
        rcases e with e | e | e
        · rw [z1] at e; cases e
        · omega
        · exact z3 e)] at kk
      exact kk _ (rfail_sf (g5' _ _ _) (gsf _ _ _)) (by show y.2.1 ≤ 600; omega)
def cSTP (Pf : am_R) (b : Nat → Int32) (n d : Nat) : Prop := ∀ (D : Nat) (P : am_O → Prop) (I : am_I) (J : am_J) (a p : Nat), 20 + 3 * d ≤ D → I 2 = b → RD I n a → I 1 5 = 0 → I 1 4 = ni (6 - d) → I 102 4 = ni p → 3 * p ≤ a →
  rm2 (mSt b n d a) (fun z => ∀ I', RD I' n z.2 → cSs p I I' → I' 102 4 = ni (p + csz d z.1) → cLa (I' 103) (I' 104) (I' 105) (I' 106) d p z.1 → P (.inl (some (.int 1)), (am_SH, I', J, Pf), 0, 0)) (fun kd pl => ∀ I', cSf I I' kd pl → pl ≤ 600 → P (.inl (some (.int 0)), (am_SH, I', J, Pf), 0, 0)) →
  am_mth D 102 [.ref 102, .int (ni (6 - d))] (am_SH, I, J, Pf) P
/-- agains are read one level further down -/
def cAGN (Pf : am_R) (b : Nat → Int32) (n d : Nat) : Prop := ∀ (D : Nat) (P : am_O → Prop) (I : am_I) (J : am_J) (a e p : Nat), 19 + 3 * d ≤ D → I 2 = b → RD I n e → I 1 5 = 0 → I 1 4 = ni (6 - d) → I 1 7 = ni (rsk b n a) → a ≤ n → I 102 4 = ni p → 3 * p ≤ a → stN b (rsk b n a) e = 4 → e = mNE b n a →
  rm2 (mSt b n d a) (fun z => ∀ I', RD I' n z.2 → cSs p I I' → I' 102 4 = ni (p + csz d z.1) → cLa (I' 103) (I' 104) (I' 105) (I' 106) d p z.1 → P (.inl (some (.int 1)), (am_SH, I', J, Pf), 0, 0)) (fun kd pl => ∀ I', cSf I I' kd pl → pl ≤ 600 → P (.inl (some (.int 0)), (am_SH, I', J, Pf), 0, 0)) →
  am_mth D 104 [.ref 102, .int (ni (6 - d))] (am_SH, I, J, Pf) P
theorem cSTP_of (hp : am_PF Pf) (h6 : Pf 102 6 = some 1) (hn : n ≤ 150) {d : Nat} (hd : d ≤ 6) (hA : cAGN Pf b n d) : cSTP Pf b n d := by
  intro D P I J a p hD hb h h5 h4 hc h3 kk
  obtain ⟨D', rfl⟩ : ∃ D', D = D' + 10 := ⟨D - 10, by omega⟩
  have ha := h.2.2.1
  have hne := mNE_le (b := b) ha
  have hq := rsk_le (b := b) ha
  have hst4 := stN_4 (b := b) (q := rsk b n a) (e := mNE b n a)
  refine am_mth_of rfl rfl (v102_0 hp ⟨h6, ?_⟩)
  refine sp_rd_takeName (d := D' + 7) hp h ?_ ?_
  · rw [hb]
    intro hlt
    have hlt' : rsk b n a < mNE b n a := hlt
    show am_af none (D' + 9) 102 4 _ _ _ _ _ _ _ P (_, (am_SH, am_u (am_u I 1 7 (ni (rsk b n a))) 1 3 (ni (mNE b n a)), J, Pf), _, _)
    obtain ⟨I0, eI0⟩ : ∃ I0, I0 = am_u (am_u I 1 7 (ni (rsk b n a))) 1 3 (ni (mNE b n a)) := ⟨_, rfl⟩
    rw [← eI0]
    have z2 : I0 2 = b := by rw [eI0, am_u_o (by omega), am_u_o (by omega)]; exact hb
    have zR : RD I0 n (mNE b n a) := by
      rw [eI0]
      exact ⟨by rw [am_u_nq (by omega), am_u_nq (by omega)]; exact h.1, am_u_same, hne.2, h.2.2.2⟩
    have zf : cRd I I0 := by rw [eI0]; exact (cRd.rfl'.u (by omega)).u (by omega)
    have z5 : I0 1 5 = 0 := by rw [zf _ _ (by omega)]; exact h5
    have z4 : I0 1 4 = ni (6 - d) := by rw [zf _ _ (by omega)]; exact h4
    have z7 : I0 1 7 = ni (rsk b n a) := by rw [eI0, am_u_nq (by omega), am_u_same]
    have zc : I0 102 4 = ni p := by rw [zf _ _ (by omega)]; exact hc
    refine am_back (v102_7 hp ?_)
    rw [if_neg (by decide)]
    refine sc_stkind (d := D' + 2) hp h6 zR z7 hne.1 (am_back (v102_16 hp ?_))
    rw [z2, zc, ni_p1]
    by_cases c0 : stN b (rsk b n a) (mNE b n a) = 0
    · have hm : mSt b n d a = .inl (1, rsk b n a) := by
        cases d with
        | zero => unfold mSt; rw [if_pos c0]
        | succ d => unfold mSt; rw [if_pos c0]
      rw [hm] at kk
      rw [c0, if_pos (by decide)]
      refine v102_33 hp ⟨h6, ?_⟩
      rw [if_pos z5, z7]
      refine kk _ ⟨by rw [am_u_nq (by omega)]; exact am_u_same, am_u_same, fun o k e1 e2 e3 e4 e5 => by rw [am_u_nq (by omega), am_u_nq (by omega)]; exact zf o k (by omega)⟩ (by show rsk b n a ≤ 600; omega)
    · have hl := stN_len c0
      rw [if_neg (fun z => c0 ((leq 0 (by omega) (by omega)).mp z)), if_pos ((llt 150 (by omega) (by omega)).mpr (by omega))]
      by_cases c4 : stN b (rsk b n a) (mNE b n a) = 4
      · rw [c4, if_pos (by decide)]
        refine hA (D' + 9) _ I0 J a (mNE b n a) p (by omega) z2 zR z5 z4 z7 ha zc h3 c4 rfl ?_
        cases hm : mSt b n d a with
        | inl f =>
          rw [hm] at kk
          exact fun I' q1 q2 => am_back (v102_59 hp ⟨Or.inl rfl, kk I' (q1.after zf.sg) q2⟩)
        | inr z =>
          rw [hm] at kk
          exact fun I' q1 q2 q3 q4 => am_back (v102_59 hp ⟨Or.inr rfl, kk I' q1 (zf.ss.trans q2) q3 q4⟩)
      · rw [if_neg (fun z => c4 ((leq 4 (by omega) (by omega)).mp z)), show (24 : Int32) = ni 25 - ni 1 from by decide]
        have hm : mSt b n d a = rb (mSe b n (stN b (rsk b n a) (mNE b n a)) (mNE b n a)) (fun z => .inr (sI d z.1, z.2)) := by
          cases d with
          | zero => unfold mSt; rw [if_neg c0, if_neg c4]
          | succ d => unfold mSt; rw [if_neg c0, if_neg c4]
        rw [hm] at kk
        generalize stN b (rsk b n a) (mNE b n a) = kd at *
        have hp50 : p ≤ 50 := by omega
        refine ⟨h6, sc_num (r := 1000) (lim := 25) (d := D' + 7) hp (by omega) zR z5 ?_⟩
        rw [z2]
        unfold mSe at kk
        cases h1 : mNum b n 25 (mNE b n a) with
        | inl f =>
          rw [h1] at kk
          intro I' q1 q2
          refine am_back (v102_69 hp ?_)
          rw [if_pos rfl]
          exact kk I' (q1.sf.after zf.sg) q2
        | inr y =>
          rw [h1] at kk
          dsimp only [rb] at kk
          obtain ⟨g1, g2, g3⟩ := mNum_ge hne.2 h1
          intro I1 q1 q2 q3 q4
          have p2 : I1 2 = b := by rw [← z2]; funext k; exact q2 _ _ (by omega)
          have p5 : I1 1 5 = 0 := by rw [q2 _ _ (by omega)]; exact z5
          have pc : I1 102 4 = ni p := by rw [q2 _ _ (by omega)]; exact zc
          have zf1 : cRd I I1 := zf.trans q2
          refine am_back (v102_69 hp ?_)
          rw [if_neg (ni_neg1 (by omega)), show (24 : Int32) = ni 25 - ni 1 from by decide]
          -- the last of a step
          have LAST : ∀ (I2 : am_I) (w2 : Nat) (wd : List Int32) (e2 : Nat), w2 ≤ 24 → RD I2 n e2 → cSs p I I2 → I2 102 4 = ni p → (kd = 1 → ∀ i, i < w2 → I2 106 (8 * p + i) = wd.getD i 0) → rm2 (rb (.inr ((kd, y.1, w2, wd), e2)) (fun z => .inr (sI d z.1, z.2)) : (Nat × Nat) ⊕ (ST d × Nat)) (fun z => ∀ I', RD I' n z.2 → cSs p I I' → I' 102 4 = ni (p + csz d z.1) → cLa (I' 103) (I' 104) (I' 105) (I' 106) d p z.1 → P (.inl (some (.int 1)), (am_SH, I', J, Pf), 0, 0)) (fun kd pl => ∀ I', cSf I I' kd pl → pl ≤ 600 → P (.inl (some (.int 0)), (am_SH, I', J, Pf), 0, 0)) → (if ni w2 = -1 then P (.inl (some (.int 0)), (am_SH, I2, J, Pf), 0, 0) else (if I2 102 4 < 150 then (am_in (I2 102 4) 150 = true) ∧ (am_in (I2 102 4) 150 = true) ∧ (am_in (I2 102 4) 150 = true) ∧ P (.inl (some (.int 1)), (am_SH, am_u (am_u (am_u (am_u I2 103 (I2 102 4).toNatClampNeg (ni kd)) 104 (I2 102 4).toNatClampNeg (ni y.1)) 105 (I2 102 4).toNatClampNeg (ni w2)) 102 4 (I2 102 4 + 1), J, Pf), 0, 0) else P (.inl (some (.int 1)), (am_SH, I2, J, Pf), 0, 0))) := by
            intro I2 w2 wd e2 hw r1 r2 r3 r4 kk
            rw [if_neg (ni_neg1 (by omega)), r3, if_pos ((llt 150 (by omega) (by omega)).mpr (by omega)), show (ni p).toNatClampNeg = p from ni_nat (by omega), ni_p1]
            refine ⟨ni_in (by omega) (by omega), ni_in (by omega) (by omega), ni_in (by omega) (by omega), ?_⟩
            refine kk _ (r1.of (fun k => by rw [am_u_nq (by omega), am_u_nq (by omega), am_u_nq (by omega), am_u_nq (by omega)])) (fun o k e1 e2 e3 e4 => by rw [am_u_nq (by omega), am_u_nq (by omega), am_u_nq (by omega), am_u_nq (by omega)]; exact r2 o k e1 e2 e3 e4) ?_ (cLa_I.mpr ⟨?_, ?_, ?_, fun e i hi => ?_⟩)
            · show _ = ni (p + csz d (sI d _))
              rw [csz_I]
              exact am_u_same
            · rw [am_u_nq (by omega), am_u_nq (by omega), am_u_nq (by omega)]; exact am_u_same
            · rw [am_u_nq (by omega), am_u_nq (by omega)]; exact am_u_same
            · rw [am_u_nq (by omega)]; exact am_u_same
            · rw [am_u_nq (by omega), am_u_nq (by omega), am_u_nq (by omega), am_u_nq (by omega)]; exact r4 e i hi
          by_cases c1 : kd = 1
          · rw [if_pos c1] at kk
            rw [if_pos ((leq 1 (by omega) (by omega)).mpr c1), pc, show (8 : Int32) = ni 8 from rfl, ni_mul]
            refine ⟨h6, sc_wordst (d := D' + 5) hp q1 p5 (by omega) ?_⟩
            rw [p2]
            cases h2 : mShort b n y.2 with
            | inl f =>
              rw [h2] at kk
              intro I' k1 k2
              refine am_back (v102_100 hp ?_)
              rw [if_pos rfl]
              exact kk I' (k1.after zf1.sg) k2
            | inr x =>
              rw [h2] at kk
              obtain ⟨m1, m2, m3, m4, m5⟩ := mShort_ok g2 h2
              intro I2 k1 k2 k3
              refine am_back (v102_100 hp ?_)
              refine LAST I2 x.1.length x.1 (x.2.2 + 1) (by omega) k1 (fun o k e1 e2 e3 e4 => by rw [k3 _ _ (by omega) (by omega)]; exact zf1 o k e1) (by rw [k3 _ _ (by omega) (by omega)]; exact pc) (fun _ i hi => by rw [show 8 * p + i = p * 8 + i by omega]; exact k2 i hi) ?_
              subst c1
              exact kk
          · rw [if_neg c1] at kk
            rw [if_neg (fun z => c1 ((leq 1 (by omega) (by omega)).mp z))]
            refine ⟨h6, sc_num (r := 1000) (lim := 25) (d := D' + 7) hp (by omega) q1 p5 ?_⟩
            rw [p2]
            cases h2 : mNum b n 25 y.2 with
            | inl f =>
              rw [h2] at kk
              intro I' k1 k2
              refine am_back (v102_112 hp ?_)
              rw [if_pos rfl]
              exact kk I' (k1.sf.after zf1.sg) k2
            | inr x =>
              rw [h2] at kk
              obtain ⟨m1, m2, m3⟩ := mNum_ge g2 h2
              intro I2 k1 k2 k3 k4
              refine am_back (v102_112 hp ?_)
              exact LAST I2 x.1 [] x.2 (by omega) k1 ((zf1.trans k2).ss) (by rw [k2 _ _ (by omega)]; exact pc) (fun z => absurd z c1) kk
  · rw [hb]
    intro hlt
    have hlt' : ¬ rsk b n a < mNE b n a := hlt
    have hm : mSt b n d a = .inl (1, rsk b n a) := by
      have c0 : stN b (rsk b n a) (mNE b n a) = 0 := by
        by_cases c : stN b (rsk b n a) (mNE b n a) = 0
        · exact c
        · have := stN_len c; omega
      cases d with
      | zero => unfold mSt; rw [if_pos c0]
      | succ d => unfold mSt; rw [if_pos c0]
    rw [hm] at kk
    refine am_back (v102_7 hp ?_)
    rw [if_pos rfl]
    have e : ltF b (n - rsk b n a) (rsk b n a) = rsk b n a := by
      have : ltF b (n - rsk b n a) (rsk b n a) = mNE b n a := rfl
      omega
    rw [e]
    exact kk _ (rfail_sf (by rw [am_u_nq (by omega), am_u_nq (by omega)]; exact h5) (fun o k e1 e2 e3 e4 e5 => by rw [am_u_nq (by omega), am_u_nq (by omega)])) (by show rsk b n a ≤ 600; omega)
end CWK
