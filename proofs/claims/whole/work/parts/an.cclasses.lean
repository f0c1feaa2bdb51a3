/-! The class's answers of classes, productions, sorts -/
section CCL
variable {d : Nat} {P : am_O → Prop} {J : am_J} {Pf : am_R} {T : TX} {w : Nat → Int32} {r : Nat}
theorem sc_inC (hp : am_PF Pf) {I : am_I} {x : Int32} {n : Nat} (hn : n < 2147483648) (kk1 : ∀ a, x = ni a → a < n → P (.inl none, (am_SH, I, J, Pf), 0, 0)) (kk0 : ¬ inC x n → P (.inr 0, (am_SH, am_u I 0 18 (I 0 18 + 1), J, Pf), 1, 6)) : am_mth (d + 6) 175 [.ref 0, .int x, .int (ni n)] (am_SH, I, J, Pf) P := by
  refine sc_one hp (fun c1 c2 => ?_) (fun c => ?_)
  · obtain ⟨a, h1, h2⟩ := inC_of hn c1 c2
    exact kk1 a h1 h2
  · rcases c with c | c
    · exact kk0 (inC_lo hn c)
    · exact kk0 (inC_hi hn c)
theorem sc_inS (hp : am_PF Pf) {I : am_I} {x : Int32} (kk1 : ∀ k, x = ni (32 + k) → k < 95 → P (.inl none, (am_SH, I, J, Pf), 0, 0)) (kk0 : ¬ inS x → P (.inr 1, (am_SH, am_u I 0 19 (I 0 19 + 1), J, Pf), 1, 6)) : am_mth (d + 6) 176 [.ref 0, .int x, .int 32, .int 126] (am_SH, I, J, Pf) P := by
  refine sc_within hp (fun c1 c2 => ?_) (fun c => ?_)
  · obtain ⟨k, h1, h2⟩ := inS_of c1 c2
    exact kk1 k h1 h2
  · rcases c with c | c
    · exact kk0 (inS_lo c)
    · exact kk0 (inS_hi c)
theorem sc_group (hp : am_PF Pf) (hr : r = 16 ∨ r = 55) (hr2 : Pf 0 2 = some r) (hG : WG w) {I : am_I} (hQ : cQ r I J w T) {D : Nat} (hD : 20 ≤ D) {x1 x2 : Int32} (kk : cA P Pf r w T I J (qC (wN w 0) 3 (aGr w) x1 x2)) : am_mth D 148 [.ref 0, .int x1, .int x2] (am_SH, I, J, Pf) P := by
  obtain ⟨D', rfl⟩ : ∃ D', D = D' + 10 := ⟨D - 10, by omega⟩
  obtain ⟨⟨w0, w0'⟩, -⟩ := id hG.1
  have hrs := rul_sh hr
  have hI : I r 1 = ni (wN w 0) := hQ.1.1.1.1.trans w0
  refine am_mth_of rfl rfl (v148_0 hp ⟨r, hr2, hrs, ?_⟩)
  rw [hI]
  refine sc_inC (d := D' + 3) hp (by omega) (fun c hc hcn => am_back (v148_12 hp ?_)) (fun hb => am_thru rfl ?_)
  · refine sc_in (d := D' + 3) (n := 3) hp (by omega) (fun x hx hx3 => am_back (v148_19 hp ⟨r, hr2, hrs, ?_⟩)) (fun hb => am_thru rfl ?_)
    · subst hc hx
      rw [qC_t hcn (by omega) hx3 (by omega)] at kk
      have hkk := kk I J hQ cQf.rfl' cQj.rfl'
      obtain ⟨g1, g2⟩ := hQ.1.1.2.1 c hcn
      obtain ⟨o1, o2⟩ := cls_obj hp hr (show c < 8 by omega)
      rw [show (ni c).toNatClampNeg = c from ni_nat (by omega)]
      refine ⟨ni_in (by omega) (by omega), cO r + c, o1, o2, ?_⟩
      unfold aGr at hkk
      have x4 : x = 0 ∨ x = 1 ∨ x = 2 ∨ x = 3 := by omega
      rcases x4 with rfl | rfl | rfl | rfl
      · rw [if_pos rfl] at hkk
        rw [if_pos (by decide)]
        exact sg_size (d := D' + 7) hp o2 g1 g2 (am_back (v148_60 hp hkk))
      · rw [if_neg (by decide), if_pos rfl] at hkk
        rw [if_neg (by decide), if_pos (by decide)]
        exact sg_least (d := D' + 6) hp o2 g1 (am_back (v148_65 hp hkk))
      · rw [if_neg (by decide), if_neg (by decide), if_pos rfl] at hkk
        rw [if_neg (by decide), if_neg (by decide), if_pos (by decide)]
        exact sg_greatest (d := D' + 6) hp o2 g1 (am_back (v148_70 hp hkk))
      · rw [if_neg (by decide), if_neg (by decide), if_neg (by decide)] at hkk
        rw [if_neg (by decide), if_neg (by decide), if_neg (by decide)]
        exact sg_stretches (d := D' + 6) hp o2 g1 (am_back (v148_75 hp hkk))
    · rw [qC_1 ⟨c, hc, hcn⟩ hb] at kk
      exact kk
  · rw [qC_0 hb] at kk
    exact kk
theorem sc_holds (hp : am_PF Pf) (hr : r = 16 ∨ r = 55) (hr2 : Pf 0 2 = some r) (hG : WG w) {I : am_I} (hQ : cQ r I J w T) {D : Nat} (hD : 20 ≤ D) {x1 x2 : Int32} (kk : cA P Pf r w T I J (qCS (wN w 0) (aHo w) x1 x2)) : am_mth D 149 [.ref 0, .int x1, .int x2] (am_SH, I, J, Pf) P := by
  obtain ⟨D', rfl⟩ : ∃ D', D = D' + 10 := ⟨D - 10, by omega⟩
  obtain ⟨⟨w0, w0'⟩, -⟩ := id hG.1
  have hrs := rul_sh hr
  have hI : I r 1 = ni (wN w 0) := hQ.1.1.1.1.trans w0
  refine am_mth_of rfl rfl (v149_0 hp ⟨r, hr2, hrs, ?_⟩)
  rw [hI]
  refine sc_inC (d := D' + 3) hp (by omega) (fun c hc hcn => am_back (v149_12 hp ?_)) (fun hb => am_thru rfl ?_)
  · refine sc_inS (d := D' + 3) hp (fun k hk hk95 => am_back (v149_21 hp ⟨r, hr2, hrs, ?_⟩)) (fun hb => am_thru rfl ?_)
    · subst hc hk
      rw [qCS_t hcn (by omega) hk95] at kk
      have hkk := kk I J hQ cQf.rfl' cQj.rfl'
      obtain ⟨g1, g2⟩ := hQ.1.1.2.1 c hcn
      obtain ⟨o1, o2⟩ := cls_obj hp hr (show c < 8 by omega)
      rw [show (ni c).toNatClampNeg = c from ni_nat (by omega)]
      refine ⟨ni_in (by omega) (by omega), cO r + c, o1, o2, ?_⟩
      refine sp_sg_has hp o2 (by omega) (am_back (v149_34 hp ?_))
      rw [sgH_f g1 hk95]
      unfold aHo at hkk
      cases e : wCls w c k
      · rw [e, if_neg (by decide)] at hkk
        exact ⟨Or.inl rfl, hkk⟩
      · rw [e, if_pos rfl] at hkk
        exact ⟨Or.inr rfl, hkk⟩
    · rw [qCS_1 ⟨c, hc, hcn⟩ hb] at kk
      exact kk
  · rw [qCS_0 hb] at kk
    exact kk
theorem sc_prodq (hp : am_PF Pf) (hr : r = 16 ∨ r = 55) (hr2 : Pf 0 2 = some r) (hG : WG w) {I : am_I} (hQ : cQ r I J w T) {D : Nat} (hD : 20 ≤ D) {x1 x2 : Int32} (kk : cA P Pf r w T I J (qC (wN w 1) 2 (fun p x => w (32 + 3 * p + x)) x1 x2)) : am_mth D 151 [.ref 0, .int x1, .int x2] (am_SH, I, J, Pf) P := by
  obtain ⟨D', rfl⟩ : ∃ D', D = D' + 10 := ⟨D - 10, by omega⟩
  obtain ⟨-, ⟨w1, w1'⟩, -⟩ := id hG.1
  have hrs := rul_sh hr
  have hI : I r 2 = ni (wN w 1) := hQ.1.1.1.2.1.trans w1
  refine am_mth_of rfl rfl (v151_0 hp ⟨r, hr2, hrs, ?_⟩)
  rw [hI]
  refine sc_inC (d := D' + 3) hp (by omega) (fun p hp1 hpn => am_back (v151_12 hp ?_)) (fun hb => am_thru rfl ?_)
  · refine sc_in (d := D' + 3) (n := 2) hp (by omega) (fun x hx hx2 => am_back (v151_19 hp ?_)) (fun hb => am_thru rfl ?_)
    · subst hp1 hx
      rw [qC_t hpn (by omega) hx2 (by omega)] at kk
      have hkk := kk I J hQ cQf.rfl' cQj.rfl'
      obtain ⟨q1, q2, q3, -⟩ := hQ.1.1.2.2.1 p hpn
      obtain ⟨-, -, -, -, g5, -⟩ := hG.pr hpn
      rw [show (ni p).toNatClampNeg = p from ni_nat (by omega)]
      have x3 : x = 0 ∨ x = 1 ∨ x = 2 := by omega
      rcases x3 with rfl | rfl | rfl
      · rw [if_pos (by decide)]
        refine ⟨r, hr2, hrs, ni_in (by omega) (by omega), ?_⟩
        rw [q1]; exact hkk
      · rw [if_neg (by decide), if_pos (by decide)]
        refine ⟨r, hr2, hrs, ni_in (by omega) (by omega), ?_⟩
        rw [q2]
        have hkk' : P (.inl (some (.int (w (32 + 3 * p + 1)))), (am_SH, I, J, Pf), 0, 0) := hkk
        rcases g5 with z | z
        · rw [z] at hkk' ⊢
          rw [if_pos (by decide)]; exact hkk'
        · rw [z] at hkk' ⊢
          rw [if_neg (by decide)]; exact hkk'
      · rw [if_neg (by decide), if_neg (by decide)]
        refine ⟨r, hr2, hrs, ni_in (by omega) (by omega), ?_⟩
        rw [q3]; exact hkk
    · rw [qC_1 ⟨p, hp1, hpn⟩ hb] at kk
      exact kk
  · rw [qC_0 hb] at kk
    exact kk
/-- what is told of a sort -/
noncomputable def aSo (w : Nat → Int32) (s x : Nat) : Int32 := if x = 0 then ni (lyW w 64 s) else if x = 1 then b2 (emX w 8 s) else if x = 2 then ni (cntN (bgC w 8 s) 95) else if x = 3 then lsP (bgC w 8 s) 95 else if x = 4 then bsV (fun t => useW w s t = true) else bsV (fun t => ndW w 8 s t = true)
/-- a sort and one more argument -/
noncomputable def qS2 (m : Nat) (f : Nat → Nat → Int32) (x1 x2 : Int32) : Sum Nat Int32 := cif (inW x1 7 ∧ inW x2 m) (.inr (f x1.toNatClampNeg x2.toNatClampNeg)) (.inl 1)
theorem qS2_t {m s x : Nat} {f : Nat → Nat → Int32} (h1 : s ≤ 7) (h2 : x ≤ m) (hm : m < 2147483648) : qS2 m f (ni s) (ni x) = .inr (f s x) := by
  unfold qS2
  rw [cif_t ⟨⟨s, rfl, h1⟩, ⟨x, rfl, h2⟩⟩, ni_nat (by omega), ni_nat (by omega)]
theorem qS2_f {m : Nat} {f : Nat → Nat → Int32} {x1 x2 : Int32} (h : ¬ (inW x1 7 ∧ inW x2 m)) : qS2 m f x1 x2 = .inl 1 := cif_f h
noncomputable def qSS (f : Nat → Nat → Int32) (x1 x2 : Int32) : Sum Nat Int32 := cif (inW x1 7 ∧ inS x2) (.inr (f x1.toNatClampNeg (x2.toNatClampNeg - 32))) (.inl 1)
theorem qSS_t {s k : Nat} {f : Nat → Nat → Int32} (h1 : s ≤ 7) (h2 : k < 95) : qSS f (ni s) (ni (32 + k)) = .inr (f s k) := by
  unfold qSS
  rw [cif_t ⟨⟨s, rfl, h1⟩, ⟨k, rfl, h2⟩⟩, ni_nat (by omega), ni_nat (by omega), Nat.add_sub_cancel_left]
theorem qSS_f {f : Nat → Nat → Int32} {x1 x2 : Int32} (h : ¬ (inW x1 7 ∧ inS x2)) : qSS f x1 x2 = .inl 1 := cif_f h
def aBe (w : Nat → Int32) (s k : Nat) : Int32 := if bgC w 8 s k = true then 1 else 0
theorem sc_sortq (hp : am_PF Pf) (hr : r = 16 ∨ r = 55) (hr2 : Pf 0 2 = some r) (hG : WG w) {I : am_I} (hQ : cQ r I J w T) {D : Nat} (hD : 20 ≤ D) {x1 x2 : Int32} (kk : cA P Pf r w T I J (qS2 5 (aSo w) x1 x2)) : am_mth D 152 [.ref 0, .int x1, .int x2] (am_SH, I, J, Pf) P := by
  obtain ⟨D', rfl⟩ : ∃ D', D = D' + 10 := ⟨D - 10, by omega⟩
  have hrs := rul_sh hr
  obtain ⟨-, ⟨a1, a2, a3⟩, ⟨a4, a5⟩, a6, a7, -⟩ := id hQ.1
  refine am_mth_of rfl rfl (v152_0 hp ?_)
  refine sc_nsort (d := D' + 2) hp (fun s hs1 h8 => am_back (v152_5 hp ?_)) (fun hb => am_thru rfl ?_)
  · refine sc_in (d := D' + 3) (n := 5) hp (by omega) (fun x hx hx5 => am_back (v152_12 hp ⟨r, hr2, hrs, ?_⟩)) (fun hb => am_thru rfl ?_)
    · subst hs1 hx
      rw [qS2_t (by omega) hx5 (by omega)] at kk
      have hkk := kk I J hQ cQf.rfl' cQj.rfl'
      obtain ⟨o1, o2⟩ := beg_obj hp hr h8
      have b8 : am_in (ni s) 8 = true := ni_in (by omega) (by omega)
      rw [show (ni s).toNatClampNeg = s from ni_nat (by omega)]
      unfold aSo at hkk
      have x6 : x = 0 ∨ x = 1 ∨ x = 2 ∨ x = 3 ∨ x = 4 ∨ x = 5 := by omega
      rcases x6 with rfl | rfl | rfl | rfl | rfl | rfl
      · rw [if_pos rfl] at hkk
        rw [if_pos (by decide)]
        rw [show r + 15 + 4 = r + 19 by omega, a4 s h8]
        exact ⟨b8, hkk⟩
      · rw [if_neg (by decide), if_pos rfl] at hkk
        rw [if_neg (by decide), if_pos (by decide)]
        have e6 := a6 s (by omega)
        cases e : emX w 8 s
        · rw [e] at hkk e6
          rw [show (UInt32.toInt32 (Int32.toUInt32 (I (r + 15) 5) >>> (Int32.toUInt32 (ni s) &&& Int32.toUInt32 31))) &&& 1 = 0 from (bI_us (by omega)).mpr (by rw [e6]; decide)]
          exact hkk
        · rw [e] at hkk e6
          rw [us1 (by omega) e6]
          exact hkk
      · rw [if_neg (by decide), if_neg (by decide), if_pos rfl] at hkk
        rw [if_neg (by decide), if_neg (by decide), if_pos (by decide)]
        exact ⟨b8, r + 23 + s, o1, o2, sg_size (d := D' + 7) hp o2 (a7 s h8).1 (a7 s h8).2 (am_back (v152_81 hp hkk))⟩
      · rw [if_neg (by decide), if_neg (by decide), if_neg (by decide), if_pos rfl] at hkk
        rw [if_neg (by decide), if_neg (by decide), if_neg (by decide), if_pos (by decide)]
        exact ⟨b8, r + 23 + s, o1, o2, sg_least (d := D' + 6) hp o2 (a7 s h8).1 (am_back (v152_91 hp hkk))⟩
      · rw [if_neg (by decide), if_neg (by decide), if_neg (by decide), if_neg (by decide), if_pos rfl] at hkk
        rw [if_neg (by decide), if_neg (by decide), if_neg (by decide), if_neg (by decide), if_pos (by decide)]
        rw [bsV_eq (fun t ht => by rw [a1 s h8 t ht])] at hkk
        exact ⟨b8, hkk⟩
      · rw [if_neg (by decide), if_neg (by decide), if_neg (by decide), if_neg (by decide), if_neg (by decide)] at hkk
        rw [if_neg (by decide), if_neg (by decide), if_neg (by decide), if_neg (by decide), if_neg (by decide)]
        rw [bsV_eq (fun t ht => by rw [a3 s h8 t ht])] at hkk
        exact ⟨b8, hkk⟩
    · rw [qS2_f (fun z => hb z.2)] at kk
      exact kk
  · rw [qS2_f (fun z => hb z.1)] at kk
    exact kk
theorem sc_begq (hp : am_PF Pf) (hr : r = 16 ∨ r = 55) (hr2 : Pf 0 2 = some r) (hG : WG w) {I : am_I} (hQ : cQ r I J w T) {D : Nat} (hD : 20 ≤ D) {x1 x2 : Int32} (kk : cA P Pf r w T I J (qSS (aBe w) x1 x2)) : am_mth D 153 [.ref 0, .int x1, .int x2] (am_SH, I, J, Pf) P := by
  obtain ⟨D', rfl⟩ : ∃ D', D = D' + 10 := ⟨D - 10, by omega⟩
  have hrs := rul_sh hr
  obtain ⟨-, -, -, -, a7, -⟩ := id hQ.1
  refine am_mth_of rfl rfl (v153_0 hp ?_)
  refine sc_nsort (d := D' + 2) hp (fun s hs1 h8 => am_back (v153_5 hp ?_)) (fun hb => am_thru rfl ?_)
  · refine sc_inS (d := D' + 3) hp (fun k hk hk95 => am_back (v153_14 hp ⟨r, hr2, hrs, ?_⟩)) (fun hb => am_thru rfl ?_)
    · subst hs1 hk
      rw [qSS_t (by omega) hk95] at kk
      have hkk := kk I J hQ cQf.rfl' cQj.rfl'
      obtain ⟨o1, o2⟩ := beg_obj hp hr h8
      rw [show (ni s).toNatClampNeg = s from ni_nat (by omega)]
      refine ⟨ni_in (by omega) (by omega), r + 23 + s, o1, o2, sp_sg_has hp o2 (by omega) (am_back (v153_30 hp ?_))⟩
      rw [sgH_f (a7 s h8).1 hk95]
      unfold aBe at hkk
      cases e : bgC w 8 s k
      · rw [e, if_neg (by decide)] at hkk
        exact ⟨Or.inl rfl, hkk⟩
      · rw [e, if_pos rfl] at hkk
        exact ⟨Or.inr rfl, hkk⟩
    · rw [qSS_f (fun z => hb z.2)] at kk
      exact kk
  · rw [qSS_f (fun z => hb z.1)] at kk
    exact kk
/-- what is told of a place -/
noncomputable def qPl (n : Nat) (f : Nat → Int32) (x : Int32) : Sum Nat Int32 := cif (inC x n) (.inr (f x.toNatClampNeg)) (.inl 0)
theorem qPl_t {n a : Nat} {f : Nat → Int32} (h : a < n) (hn : n < 2147483648) : qPl n f (ni a) = .inr (f a) := by
  unfold qPl
  rw [cif_t ⟨a, rfl, h⟩, ni_nat (by omega)]
theorem qPl_f {n : Nat} {f : Nat → Int32} {x : Int32} (h : ¬ inC x n) : qPl n f x = .inl 0 := cif_f h
theorem sc_signq (hp : am_PF Pf) {I : am_I} (hQ : cQ r I J w T) {D : Nat} (hD : 20 ≤ D) {x1 : Int32} (kk : cA P Pf r w T I J (qPl T.1 T.2 x1)) : am_mth D 154 [.ref 0, .int x1] (am_SH, I, J, Pf) P := by
  obtain ⟨D', rfl⟩ : ∃ D', D = D' + 10 := ⟨D - 10, by omega⟩
  have h24 := hQ.2.1.2.1
  refine am_mth_of rfl rfl (v154_0 hp ?_)
  rw [hQ.2.1.1]
  refine sc_inC (d := D' + 3) hp (by omega) (fun a ha han => am_back (v154_12 hp ?_)) (fun hb => am_thru rfl ?_)
  · subst ha
    rw [qPl_t han (by omega)] at kk
    rw [show (ni a).toNatClampNeg = a from ni_nat (by omega), hQ.2.1.2.2 a han]
    exact ⟨ni_in (by omega) (by omega), kk I J hQ cQf.rfl' cQj.rfl'⟩
  · rw [qPl_f hb] at kk
    exact kk
theorem sc_runq (hp : am_PF Pf) (hr : r = 16 ∨ r = 55) (hF : cFn Pf r) (hG : WG w) (hs : sndW w) {I : am_I} (hQ : cQ r I J w T) {D : Nat} (hD : 130 ≤ D) {x1 : Int32} (kk : cA P Pf r w T I J (qPl (T.1 + 1) (fun a => ni (rnT w T a)) x1)) : am_mth D 155 [.ref 0, .int x1] (am_SH, I, J, Pf) P := by
  obtain ⟨D', rfl⟩ : ∃ D', D = D' + 10 := ⟨D - 10, by omega⟩
  have h24 := hQ.2.1.2.1
  refine am_mth_of rfl rfl (v155_0 hp ?_)
  rw [hQ.2.1.1, ni_p1]
  refine sc_inC (d := D' + 3) hp (by omega) (fun a ha han => am_back (v155_14 hp ?_)) (fun hb => am_thru rfl ?_)
  · subst ha
    rw [qPl_t han (by omega)] at kk
    refine sc_gk hp hr hF hG hs hQ (by omega) (fun I' J' a1 a2 a3 a4 => am_back (v155_18 hp ?_))
    rw [show (ni a).toNatClampNeg = a from ni_nat (by omega), a1.2.1.2.1 a (by omega)]
    exact ⟨ni_in (by omega) (by omega), kk I' J' a1.q a2 a3⟩
  · rw [qPl_f hb] at kk
    exact kk
end CCL
