/-! WORK: the class's whole reading -/
theorem mSt_rsk {b : Nat → Int32} {n d a : Nat} (ha : a ≤ n) : mSt b n d (rsk b n a) = mSt b n d a := by
  have e1 := rsk_rsk (b := b) ha
  have e2 : mNE b n (rsk b n a) = mNE b n a := by unfold mNE; rw [e1]
  cases d with
  | zero => unfold mSt; rw [e1, e2]
  | succ d => unfold mSt; rw [e1, e2]
theorem layL_fr {X : Type} {f f' : Nat → X → Prop} {g : X → Nat} : ∀ (L : List X) (p : Nat), (∀ y q, y ∈ L → p ≤ q → q + g y ≤ p + szL g L → f q y → f' q y) → layL f g p L → layL f' g p L
  | [], _, _, _ => trivial
  | s :: L, p, h, ⟨h1, h2⟩ => by
    have e : szL g (s :: L) = g s + szL g L := rfl
    exact ⟨h s p (List.mem_cons_self ..) (Nat.le_refl _) (by omega) h1, layL_fr L (p + g s) (fun y q hy hq hq2 => h y q (List.mem_cons_of_mem _ hy) (by omega) (by omega)) h2⟩
theorem cLa_fr {K A B W K' A' B' W' : Nat → Int32} : ∀ (d : Nat) (s : ST d) (p : Nat), stOK d s → (∀ k, p ≤ k → k < p + csz d s → K' k = K k ∧ A' k = A k ∧ B' k = B k) → (∀ j, 8 * p ≤ j → j < 8 * (p + csz d s) → W' j = W j) → cLa K A B W d p s → cLa K' A' B' W' d p s := by
  have key : ∀ (d : Nat) (e : SE) (p : Nat), seOK e → (∀ k, p ≤ k → k < p + 1 → K' k = K k ∧ A' k = A k ∧ B' k = B k) → (∀ j, 8 * p ≤ j → j < 8 * (p + 1) → W' j = W j) → cLa K A B W d p (sI d e) → cLa K' A' B' W' d p (sI d e) := by
    intro d e p he h1 h2 h
    obtain ⟨a1, a2, a3, a4⟩ := cLa_I.mp h
    obtain ⟨k1, k2, k3⟩ := h1 p (Nat.le_refl _) (by omega)
    refine cLa_I.mpr ⟨k1.trans a1, k2.trans a2, k3.trans a3, fun c i hi => ?_⟩
    obtain ⟨g1, g2, g3, g4⟩ := he.2.2.2 c
    rw [h2 _ (by omega) (by omega)]
    exact a4 c i hi
  intro d
  induction d with
  | zero => exact fun s p hs h1 h2 h => key 0 s p hs h1 h2 h
  | succ d ih =>
    intro s p hs h1 h2 h
    rcases ST_cs s with ⟨e, rfl⟩ | ⟨t, L, rfl⟩
    · rw [csz_I] at h1 h2
      exact key (d + 1) e p (stOK_I.mp hs) h1 h2 h
    · rw [csz_A] at h1 h2
      obtain ⟨a1, a2, a3, a4, a5, a6⟩ := cLa_A.mp h
      obtain ⟨t40, sb⟩ := stOK_A.mp hs
      obtain ⟨k1, k2, k3⟩ := h1 p (Nat.le_refl _) (by omega)
      obtain ⟨m1, m2, m3⟩ := h1 (p + 1 + szL (csz d) L) (by omega) (by omega)
      exact cLa_A.mpr ⟨k1.trans a1, k2.trans a2, k3.trans a3, layL_fr L (p + 1) (fun y q hy hq hq2 hf => ih y q (sb y hy) (fun k e1 e2 => h1 k (by omega) (by omega)) (fun j e1 e2 => h2 j (by omega) (by omega)) hf) a4, m1.trans a5, m3.trans a6⟩
theorem cLa_ss {I I' : am_I} {d p q : Nat} {s : ST d} (hs : stOK d s) (h : cLa (I 103) (I 104) (I 105) (I 106) d p s) (f : cSs q I I') (hq : p + csz d s ≤ q) : cLa (I' 103) (I' 104) (I' 105) (I' 106) d p s :=
  cLa_fr d s p hs (fun k e1 e2 => ⟨f _ _ (by omega) (by omega) (by omega) (by omega), f _ _ (by omega) (by omega) (by omega) (by omega), f _ _ (by omega) (by omega) (by omega) (by omega)⟩) (fun j e1 e2 => f _ _ (by omega) (by omega) (by omega) (by omega)) h
section CWL
variable {b : Nat → Int32} {n : Nat} {Pf : am_R}
theorem hv_m1 {a : Nat} (hb0 : ∀ k, b k ≠ -1) : (hv b n a = -1) ↔ ¬ a < n := by
  unfold hv
  by_cases c : a < n
  · rw [if_pos c]; exact ⟨fun z => absurd z (hb0 _), fun z => absurd c z⟩
  · rw [if_neg c]; exact ⟨fun _ => c, fun _ => rfl⟩
/-- steps within an again -/
theorem sc_list (hp : am_PF Pf) (h6 : Pf 102 6 = some 1) (hb0 : ∀ k, b k ≠ -1) (hn : n ≤ 150) {d : Nat} (hd : d < 6) (hS : cSTP Pf b n d) {D : Nat} (hD : 20 + 3 * d ≤ D) {P : am_O → Prop} {J : am_J} : ∀ (G a p cnt : Nat) (I : am_I) (l3 : Option Value), n - a < G → I 2 = b → RD I n a → I 1 5 = 0 → I 1 4 = ni (6 - d) → I 102 4 = ni p → 3 * p ≤ a → 3 * cnt ≤ a →
  rm2 (mStL b n (mSt b n d) G a) (fun z => ∀ I', RD I' n z.2 → cSs p I I' → I' 102 4 = ni (p + szL (csz d) z.1) → layL (cLa (I' 103) (I' 104) (I' 105) (I' 106) d) (csz d) p z.1 → P (.inl (some (.int 1)), (am_SH, I', J, Pf), 0, 0)) (fun kd pl => ∀ I', cSf I I' kd pl → pl ≤ 600 → P (.inl (some (.int 0)), (am_SH, I', J, Pf), 0, 0)) →
  am_go none D 101 (2, [some (.ref 102), some (.int (ni (6 - d))), some (.int (ni cnt)), l3], [], (am_SH, I, J, Pf), 0, 0) P := by
  obtain ⟨D', rfl⟩ : ∃ D', D = D' + 10 := ⟨D - 10, by omega⟩
  intro G
  induction G with
  | zero => intro a p cnt I l3 hG; omega
  | succ G ih =>
    intro a p cnt I l3 hG hb h h5 h4 hc h3 h3c kk
    have ha := h.2.2.1
    have hq := rsk_le (b := b) ha
    refine v101_2 hp ?_
    rw [if_neg (fun z => absurd ((gle 150 (by omega) (by omega)).mp z) (by omega))]
    refine ⟨h6, sp_rd_hbb (d := D' + 9) hp h (am_back (v101_16 hp ?_))⟩
    rw [hb]
    unfold mStL at kk
    have R1 : RD (am_u I 1 3 (ni (rsk b n a))) n (rsk b n a) := h.at hq.2
    have f1 : cRd I (am_u I 1 3 (ni (rsk b n a))) := cRd.rfl'.u (by omega)
    have b1 : (am_u I 1 3 (ni (rsk b n a))) 2 = b := (am_u_o (by omega)).trans hb
    generalize am_u I 1 3 (ni (rsk b n a)) = I1 at R1 f1 b1 ⊢
    by_cases c1 : rsk b n a < n
    · rw [if_neg (fun z => (hv_m1 hb0).mp z c1)]
      have hv1 : hv b n (rsk b n a) = b (rsk b n a) := if_pos c1
      rw [hv1]
      by_cases c93 : b (rsk b n a) = 93
      · rw [if_neg (fun z => z.2 c93)] at kk
        rw [if_pos c93]
        exact kk I1 R1 f1.ss (by rw [f1 _ _ (by omega)]; exact hc) trivial
      · rw [if_pos ⟨c1, c93⟩] at kk
        rw [if_neg c93]
        have p5 : I1 1 5 = 0 := by rw [f1 _ _ (by omega)]; exact h5
        have p4 : I1 1 4 = ni (6 - d) := by rw [f1 _ _ (by omega)]; exact h4
        have pc : I1 102 4 = ni p := by rw [f1 _ _ (by omega)]; exact hc
        refine hS (D' + 10) _ I1 J (rsk b n a) p (by omega) b1 R1 p5 p4 pc (by omega) ?_
        rw [mSt_rsk ha]
        cases hm : mSt b n d a with
        | inl f =>
          rw [hm] at kk
          intro I' q1 q2
          refine am_back (v101_35 hp ?_)
          rw [if_pos rfl]
          exact kk I' (q1.after f1.sg) q2
        | inr z =>
          rw [hm] at kk
          dsimp only [rb] at kk
          obtain ⟨o1, o2, o3⟩ := mSt_ok d a z ha hm
          intro I2 q1 q2 q3 q4
          have g2 : cSs p I I2 := f1.ss.trans q2
          refine am_back (v101_35 hp ?_)
          rw [if_neg (by decide)]
          have r2 : I2 2 = b := by rw [← b1]; funext k; exact q2 _ _ (by omega) (by omega) (by omega) (by omega)
          have r5 : I2 1 5 = 0 := by rw [q2 _ _ (by omega) (by omega) (by omega) (by omega)]; exact p5
          have r4 : I2 1 4 = ni (6 - d) := by rw [q2 _ _ (by omega) (by omega) (by omega) (by omega)]; exact p4
          refine ⟨h6, sc_take (r := 1000) (d := D' + 8) hp (by decide) (by decide) q1 r5 ?_⟩
          rw [r2]
          cases ht : mTake b n 59 z.2 with
          | inl f =>
            rw [ht] at kk
            intro I' k1 k2
            refine am_back (v101_47 hp ?_)
            rw [if_pos rfl]
            exact kk I' (k1.sf.after g2.g) k2
          | inr e =>
            rw [ht] at kk
            dsimp only at kk
            have t1 := mTake_lt ht
            have t2 := mTake_le (by decide) ht
            intro I3 k1 k2 k3 k4
            refine am_back (v101_47 hp ?_)
            rw [if_neg (by decide), if_neg (fun z => absurd ((leq 0 (by omega) (by omega)).mp z) (by omega)), ni_p1]
            have g3 : cSs p I I3 := g2.trans k2.ss
            have z3 : cLa (I3 103) (I3 104) (I3 105) (I3 106) d p z.1 := cLa_ss o1 q4 (q := p + csz d z.1) k2.ss (Nat.le_refl _)
            have cp := csz_pos d z.1
            refine ih e (p + csz d z.1) (cnt + 1) I3 _ (by omega) (by rw [← r2]; funext k; exact k2 _ _ (by omega)) k1 (by rw [k2 _ _ (by omega)]; exact r5) (by rw [k2 _ _ (by omega)]; exact r4) (by rw [k2 _ _ (by omega)]; exact q3) (by omega) (by omega) ?_
            cases hl : mStL b n (mSt b n d) G e with
            | inl f =>
              rw [hl] at kk
              exact fun I' m1 m2 => kk I' (m1.after g3.g) m2
            | inr y =>
              rw [hl] at kk
              intro I' m1 m2 m3 m4
              refine kk I' m1 (g3.trans (m2.up (by omega))) ?_ ⟨cLa_ss o1 z3 m2 (Nat.le_refl _), m4⟩
              rw [m3]
              show ni _ = ni (p + (csz d z.1 + szL (csz d) y.1))
              congr 1
              omega
    · rw [if_neg (fun z => c1 z.1)] at kk
      rw [if_pos ((hv_m1 hb0).mpr c1)]
      exact kk I1 R1 f1.ss (by rw [f1 _ _ (by omega)]; exact hc) trivial
theorem cAGN_0 (hp : am_PF Pf) (h6 : Pf 102 6 = some 1) : cAGN Pf b n 0 := by
  intro D P I J a e p hD hb h h5 h4 h7 ha hc h3 hst he kk
  obtain ⟨D', rfl⟩ : ∃ D', D = D' + 10 := ⟨D - 10, by omega⟩
  have hq := rsk_le (b := b) ha
  have hn := h.2.2.2
  rw [he] at hst
  have hm : mSt b n 0 a = .inl (3, rsk b n a) := by
    unfold mSt
    rw [if_neg (by omega), if_pos hst]
  rw [hm] at kk
  refine am_mth_of rfl rfl (v104_0 hp ⟨h6, ?_⟩)
  rw [h4, if_neg (by decide), if_pos h5, h7]
  refine kk _ ⟨?_, am_u_same, fun o k e1 e2 e3 e4 e5 => by rw [am_u_nq (by omega), am_u_nq (by omega), am_u_nq (by omega)]⟩ (by show rsk b n a ≤ 600; omega)
  rw [am_u_nq (by omega)]
  exact am_u_same
theorem cAGN_s (hp : am_PF Pf) (h6 : Pf 102 6 = some 1) (hb0 : ∀ k, b k ≠ -1) (hn : n ≤ 150) {d : Nat} (hd : d < 6) (hS : cSTP Pf b n d) : cAGN Pf b n (d + 1) := by
  intro D P I J a e p hD hb h h5 h4 h7 ha hc h3 hst he kk
  obtain ⟨D', rfl⟩ : ∃ D', D = D' + 10 := ⟨D - 10, by omega⟩
  have hq := rsk_le (b := b) ha
  have hen := h.2.2.1
  have hl := stN_len (b := b) (q := rsk b n a) (e := e) (by omega)
  have hl4 := hl.2 hst
  rw [he] at hst
  have hm : mSt b n (d + 1) a = rb (mNum b n 41 e) (fun z => rb (mTake b n 91 z.2) (fun p => rb (mStL b n (mSt b n d) (n - p + 1) p) (fun y => rb (mTake b n 93 y.2) (fun f => .inr (sA d z.1 y.1, f))))) := by
    rw [he]
    unfold mSt
    rw [if_neg (by omega), if_pos hst]
  rw [hm] at kk
  refine am_mth_of rfl rfl (v104_0 hp ⟨h6, ?_⟩)
  rw [h4, ni_p1, show 6 - (d + 1) + 1 = 6 - d by omega, if_pos ((lle 6 (by omega) (by omega)).mpr (by omega)), if_pos ((llt 6 (by omega) (by omega)).mpr (by omega)), show (40 : Int32) = ni 41 - ni 1 from by decide]
  have R1 : RD (am_u I 1 4 (ni (6 - d))) n e := h.oth (by omega) (by omega)
  have b1 : (am_u I 1 4 (ni (6 - d))) 2 = b := (am_u_o (by omega)).trans hb
  have f0 : ∀ o k, ¬ (o = 1 ∧ k = 4) → (am_u I 1 4 (ni (6 - d))) o k = I o k := fun o k e => am_u_nq e
  have f4 : (am_u I 1 4 (ni (6 - d))) 1 4 = ni (6 - d) := am_u_same
  generalize am_u I 1 4 (ni (6 - d)) = I1 at R1 b1 f0 f4 ⊢
  have fg : cSg I I1 := fun o k e1 e2 e3 e4 e5 => f0 o k (by omega)
  have p5 : I1 1 5 = 0 := by rw [f0 _ _ (by omega)]; exact h5
  refine sc_num (r := 1000) (lim := 41) (d := D' + 7) hp (by omega) R1 p5 ?_
  rw [b1]
  cases h1 : mNum b n 41 e with
  | inl f =>
    rw [h1] at kk
    intro I' q1 q2
    refine am_back (v104_34 hp ?_)
    rw [if_pos rfl]
    exact kk I' (q1.sf.after fg) q2
  | inr y =>
    rw [h1] at kk
    dsimp only [rb] at kk
    obtain ⟨g1, g2, g3⟩ := mNum_ge hen h1
    intro I2 q1 q2 _ _
    refine am_back (v104_34 hp ?_)
    rw [if_neg (ni_neg1 (by omega))]
    have b2' : I2 2 = b := by rw [← b1]; funext k; exact q2 _ _ (by omega)
    have r5 : I2 1 5 = 0 := by rw [q2 _ _ (by omega)]; exact p5
    refine ⟨h6, sc_take (r := 1000) (d := D' + 7) hp (by decide) (by decide) q1 r5 ?_⟩
    rw [b2']
    cases h2 : mTake b n 91 y.2 with
    | inl f =>
      rw [h2] at kk
      intro I' k1 k2
      refine am_back (v104_49 hp ?_)
      rw [if_pos rfl]
      exact kk I' (k1.sf.after (fg.trans q2.sg)) k2
    | inr pp =>
      rw [h2] at kk
      dsimp only at kk
      have t1 := mTake_lt h2
      have t2 := mTake_le (by decide) h2
      intro I3 k1 k2 _ _
      have f3 : ∀ o k, o ≠ 1 → I3 o k = I o k := fun o k e => by rw [k2 _ _ (by omega), q2 _ _ (by omega), f0 _ _ (by omega)]
      have c3 : I3 102 4 = ni p := by rw [f3 _ _ (by omega)]; exact hc
      refine am_back (v104_49 hp ?_)
      rw [if_neg (by decide), c3, if_pos ((llt 150 (by omega) (by omega)).mpr (by omega)), show (ni p).toNatClampNeg = p from ni_nat (by omega), ni_p1, ni_p1, show 6 - (d + 1) + 1 = 6 - d by omega]
      refine ⟨ni_in (by omega) (by omega), ni_in (by omega) (by omega), ni_in (by omega) (by omega), ?_⟩
      have S4 : (am_u (am_u (am_u (am_u I3 103 p 4) 104 p (ni y.1)) 105 p 0) 102 4 (ni (p + 1))) 102 4 = ni (p + 1) := am_u_same
      have Sk : (am_u (am_u (am_u (am_u I3 103 p 4) 104 p (ni y.1)) 105 p 0) 102 4 (ni (p + 1))) 103 p = 4 := by rw [am_u_nq (by omega), am_u_nq (by omega), am_u_nq (by omega)]; exact am_u_same
      have Sa : (am_u (am_u (am_u (am_u I3 103 p 4) 104 p (ni y.1)) 105 p 0) 102 4 (ni (p + 1))) 104 p = ni y.1 := by rw [am_u_nq (by omega), am_u_nq (by omega)]; exact am_u_same
      have Sf : ∀ o k, ¬ (o = 102 ∧ k = 4) → ¬ ((103 ≤ o ∧ o ≤ 105) ∧ k = p) → (am_u (am_u (am_u (am_u I3 103 p 4) 104 p (ni y.1)) 105 p 0) 102 4 (ni (p + 1))) o k = I3 o k := fun o k e1 e2 => by rw [am_u_nq e1, am_u_nq (by omega), am_u_nq (by omega), am_u_nq (by omega)]
      generalize am_u (am_u (am_u (am_u I3 103 p 4) 104 p (ni y.1)) 105 p 0) 102 4 (ni (p + 1)) = I4 at S4 Sk Sa Sf ⊢
      have fg4 : cSg I I4 := fun o k e1 e2 e3 e4 e5 => by
        rw [Sf o k e4 (by omega), k2 o k (by omega), q2 o k (by omega), f0 o k (by omega)]
      have f14 : ∀ k, I4 1 k = I3 1 k := fun k => Sf _ _ (by omega) (by omega)
      refine am_mth_of rfl rfl (v101_0 hp ?_)
      rw [show (0 : Int32) = ni 0 from rfl]
      refine sc_list hp h6 hb0 hn hd hS (D := D' + 8) (by omega) (n - pp + 1) pp (p + 1) 0 I4 _ (by omega) ?_ (k1.of f14) ?_ ?_ S4 (by omega) (by omega) ?_
      · rw [← b2']; funext k; rw [Sf _ _ (by omega) (by omega), k2 _ _ (by omega)]
      · rw [f14, k2 _ _ (by omega)]; exact r5
      · rw [f14, k2 _ _ (by omega), q2 _ _ (by omega)]; exact f4
      cases hl : mStL b n (mSt b n d) (n - pp + 1) pp with
      | inl f =>
        rw [hl] at kk
        intro I' m1 m2
        refine am_back (v104_73 hp ?_)
        rw [if_pos rfl]
        exact kk I' (m1.after fg4) m2
      | inr x =>
        rw [hl] at kk
        dsimp only at kk
        obtain ⟨o1, o2, o3⟩ := mStL_ok (sz := csz d) (ok := stOK d) (fun a z ha hz => mSt_ok d a z ha hz) _ _ _ t2 hl
        intro I5 m1 m2 m3 m4
        refine am_back (v104_73 hp ?_)
        rw [if_neg (by decide)]
        have b5 : I5 2 = b := by rw [← b2']; funext k; rw [m2 _ _ (by omega) (by omega) (by omega) (by omega), Sf _ _ (by omega) (by omega), k2 _ _ (by omega)]
        have r55 : I5 1 5 = 0 := by rw [m2 _ _ (by omega) (by omega) (by omega) (by omega), f14, k2 _ _ (by omega)]; exact r5
        refine ⟨h6, sc_take (r := 1000) (d := D' + 7) hp (by decide) (by decide) m1 r55 ?_⟩
        rw [b5]
        cases h8 : mTake b n 93 x.2 with
        | inl f =>
          rw [h8] at kk
          intro I' n1 n2
          refine am_back (v104_85 hp ?_)
          rw [if_pos rfl]
          exact kk I' (n1.sf.after (fg4.trans m2.g)) n2
        | inr f =>
          rw [h8] at kk
          have s1 := mTake_lt h8
          have s2 := mTake_le (by decide) h8
          intro I6 n1 n2 _ _
          have c6 : I6 102 4 = ni (p + 1 + szL (csz d) x.1) := by rw [n2 _ _ (by omega)]; exact m3
          have e14 : I6 1 4 = ni (6 - d) := by rw [n2 _ _ (by omega), m2 _ _ (by omega) (by omega) (by omega) (by omega), f14, k2 _ _ (by omega), q2 _ _ (by omega)]; exact f4
          have lay6 : layL (cLa (I6 103) (I6 104) (I6 105) (I6 106) d) (csz d) (p + 1) x.1 := layL_fr x.1 (p + 1) (fun y q hy _ _ hf => cLa_ss (o1 y hy) hf (q := q + csz d y) n2.ss (Nat.le_refl _)) m4
          have hf6 : ∀ o k, ¬ (o = 1 ∧ (k = 3 ∨ k = 4 ∨ k = 7 ∨ k = 8 ∨ k = 9)) → ¬ (o = 102 ∧ k = 4) → ¬ ((103 ≤ o ∧ o ≤ 105) ∧ p ≤ k) → ¬ (o = 106 ∧ 8 * p ≤ k) → I6 o k = I o k := fun o k e1 e2 e3 e4 => by
            rw [n2 _ _ (by omega), m2 o k (by omega) e2 (by omega) (by omega), Sf o k e2 (by omega), k2 _ _ (by omega), q2 _ _ (by omega), f0 _ _ (by omega)]
          have K6 : I6 103 p = 4 := by rw [n2 _ _ (by omega), m2 _ _ (by omega) (by omega) (by omega) (by omega)]; exact Sk
          have A6 : I6 104 p = ni y.1 := by rw [n2 _ _ (by omega), m2 _ _ (by omega) (by omega) (by omega) (by omega)]; exact Sa
          refine am_back (v104_85 hp ?_)
          generalize hqn : szL (csz d) x.1 = qn at c6 o2
          rw [if_neg (by decide), c6, e14, if_pos ((llt 150 (by omega) (by omega)).mpr (by omega)), show (ni p).toNatClampNeg = p from ni_nat (by omega), show (ni (p + 1 + qn)).toNatClampNeg = p + 1 + qn from ni_nat (by omega), ni_p1]
          refine ⟨h6, ni_in (by omega) (by omega), ni_in (by omega) (by omega), ni_in (by omega) (by omega), ni_in (by omega) (by omega), ?_⟩
          refine kk _ (n1.oth (f := 4) (v := ni (6 - d) - 1) (by omega) (by omega) |>.of (fun k => by rw [am_u_nq (by omega), am_u_nq (by omega), am_u_nq (by omega), am_u_nq (by omega), am_u_nq (by omega)])) (fun o k e1 e2 e3 e4 => ?_) ?_ (cLa_A.mpr ⟨?_, ?_, ?_, ?_, ?_, ?_⟩)
          · rw [am_u_nq e2, am_u_nq (by omega), am_u_nq (by omega), am_u_nq (by omega), am_u_nq (by omega)]
            by_cases c : o = 1 ∧ k = 4
            · obtain ⟨rfl, rfl⟩ := c
              rw [am_u_same, h4]
              exact ni_sub (a := 6 - d) (b := 1) (by omega) |>.trans (by congr 1)
            · rw [am_u_nq c]
              exact hf6 o k (by omega) e2 e3 e4
          · show _ = ni (p + csz (d + 1) (sA d y.1 x.1))
            rw [csz_A, hqn, am_u_same]
            congr 1
            omega
          · rw [am_u_nq (by omega), am_u_nq (by omega), am_u_nq (by omega), am_u_nq (by omega), am_u_nq (by omega), am_u_nq (by omega)]; exact K6
          · rw [am_u_nq (by omega), am_u_nq (by omega), am_u_nq (by omega), am_u_nq (by omega), am_u_nq (by omega), am_u_nq (by omega)]; exact A6
          · rw [hqn, am_u_nq (by omega), am_u_nq (by omega), am_u_nq (by omega), am_u_nq (by omega)]; exact am_u_same
          · refine layL_fr x.1 (p + 1) (fun y q hy e1 e2 hf => cLa_fr d y q (o1 y hy) (fun k j1 j2 => ?_) (fun j j1 j2 => ?_) hf) lay6
            · rw [hqn] at e2
              refine ⟨?_, ?_, ?_⟩
              · rw [am_u_nq (by omega), am_u_nq (by omega), am_u_nq (by omega), am_u_nq (by omega), am_u_nq (by omega), am_u_nq (by omega)]
              · rw [am_u_nq (by omega), am_u_nq (by omega), am_u_nq (by omega), am_u_nq (by omega), am_u_nq (by omega), am_u_nq (by omega)]
              · rw [am_u_nq (by omega), am_u_nq (by omega), am_u_nq (by omega), am_u_nq (by omega), am_u_nq (by omega), am_u_nq (by omega)]
            · rw [am_u_nq (by omega), am_u_nq (by omega), am_u_nq (by omega), am_u_nq (by omega), am_u_nq (by omega), am_u_nq (by omega)]
          · rw [hqn, am_u_nq (by omega), am_u_nq (by omega), am_u_nq (by omega)]; exact am_u_same
          · rw [hqn, am_u_nq (by omega)]; exact am_u_same
theorem cSTP_all (hp : am_PF Pf) (h6 : Pf 102 6 = some 1) (hb0 : ∀ k, b k ≠ -1) (hn : n ≤ 150) : ∀ d, d ≤ 6 → cSTP Pf b n d := by
  intro d
  induction d with
  | zero => exact fun hd => cSTP_of hp h6 hn hd (cAGN_0 hp h6)
  | succ d ih => exact fun hd => cSTP_of hp h6 hn hd (cAGN_s hp h6 hb0 hn (by omega) (ih (by omega)))
end CWL
