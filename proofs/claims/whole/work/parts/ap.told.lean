/-! What is told; two classes, by the class -/
noncomputable def aTd (w : Nat → Int32) (T : TX) (rs : Int32) (k : Nat) : Int32 := if k < 6 then w k else if k = 6 then ni (mxL (lyW w 64) 8) else if k = 7 then bsV (fun s => s < 8 ∧ 0 < HHx w 3 T s 0 T.1) else if k = 8 then ni T.1 else rs
section TLD
variable {P : am_O → Prop} {J : am_J} {Pf : am_R} {T : TX} {w : Nat → Int32} {r : Nat}
theorem sc_beside (hp : am_PF Pf) (hr : r = 16 ∨ r = 55) (hr2 : Pf 0 2 = some r) (hG : WG w) {I : am_I} (hQ : cQ r I J w T) {D : Nat} (hD : 20 ≤ D) {x1 x2 : Int32} (kk : cA P Pf r w T I J (qBs (wN w 0) (fun a c => aBs (wCls w a) (wCls w c)) x1 x2)) : am_mth D 150 [.ref 0, .int x1, .int x2] (am_SH, I, J, Pf) P := by
  obtain ⟨D', rfl⟩ : ∃ D', D = D' + 10 := ⟨D - 10, by omega⟩
  obtain ⟨⟨w0, w0'⟩, -⟩ := id hG.1
  have hrs := rul_sh hr
  have hI : I r 1 = ni (wN w 0) := hQ.1.1.1.1.trans w0
  refine am_mth_of rfl rfl (v150_0 hp ⟨r, hr2, hrs, ?_⟩)
  rw [hI]
  refine sc_inC (d := D' + 3) hp (by omega) (fun a ha han => am_back (v150_12 hp ⟨r, hr2, hrs, ?_⟩)) (fun hb => am_thru rfl ?_)
  · rw [hI]
    refine sc_inC (d := D' + 3) hp (by omega) (fun c hc hcn => am_back (v150_24 hp ⟨r, hr2, hrs, ?_⟩)) (fun hb => am_thru rfl ?_)
    · subst ha hc
      rw [qBs_t han hcn (by omega)] at kk
      have hkk := kk I J hQ cQf.rfl' cQj.rfl'
      obtain ⟨g1, g2⟩ := hQ.1.1.2.1 a han
      obtain ⟨g3, g4⟩ := hQ.1.1.2.1 c hcn
      obtain ⟨o1, o2⟩ := cls_obj hp hr (show a < 8 by omega)
      obtain ⟨o3, o4⟩ := cls_obj hp hr (show c < 8 by omega)
      rw [show (ni a).toNatClampNeg = a from ni_nat (by omega), show (ni c).toNatClampNeg = c from ni_nat (by omega)]
      refine ⟨ni_in (by omega) (by omega), cO r + a, o1, o2, ni_in (by omega) (by omega), cO r + c, o3, o4, ?_⟩
      unfold aBs at hkk
      refine sg_like (d := D' + 8) hp o2 o4 g1 g3 g2 g4 (fun z => am_back (v150_51 hp o2 o4 ?_)) (fun z => am_back (v150_51 hp o2 o4 ?_))
      · rw [cif_t z] at hkk
        rw [if_neg (by decide)]; exact hkk
      · rw [cif_f z] at hkk
        rw [if_pos (by decide)]
        refine sg_meets (d := D' + 8) hp o2 o4 g1 g3 g2 g4 (fun z => am_back (v150_62 hp o2 o4 ?_)) (fun z => am_back (v150_62 hp o2 o4 ?_))
        · rw [cif_t z] at hkk
          rw [if_neg (by decide)]
          refine sg_within (d := D' + 8) hp o2 o4 g1 g3 g2 g4 (fun z => am_back (v150_73 hp o2 o4 ?_)) (fun z => am_back (v150_73 hp o2 o4 ?_))
          · rw [cif_t z] at hkk
            rw [if_neg (by decide)]; exact hkk
          · rw [cif_f z] at hkk
            rw [if_pos (by decide)]
            refine sg_within (d := D' + 8) hp o4 o2 g3 g1 g4 g2 (fun z => am_back (v150_84 hp ?_)) (fun z => am_back (v150_84 hp ?_))
            · rw [cif_t z] at hkk
              rw [if_neg (by decide)]; exact hkk
            · rw [cif_f z] at hkk
              rw [if_pos (by decide)]; exact hkk
        · rw [cif_f z] at hkk
          rw [if_pos (by decide)]; exact hkk
    · rw [qBs_f (fun z => hb z.2)] at kk
      exact kk
  · rw [qBs_f (fun z => hb z.1)] at kk
    exact kk
theorem sc_toldq (hp : am_PF Pf) (hr : r = 16 ∨ r = 55) (hr2 : Pf 0 2 = some r) (hF : cFn Pf r) (hG : WG w) (hs : sndW w) {I : am_I} (hQ : cQ r I J w T) {rs : Int32} (hrs16 : I 0 16 = rs) {D : Nat} (hD : 130 ≤ D) {x1 : Int32} (kk : cA P Pf r w T I J (qSt 9 (aTd w T rs) x1)) : am_mth D 147 [.ref 0, .int x1] (am_SH, I, J, Pf) P := by
  obtain ⟨D', rfl⟩ : ∃ D', D = D' + 10 := ⟨D - 10, by omega⟩
  have hrs := rul_sh hr
  obtain ⟨⟨⟨b0, b1, b2, b3, b4, b5⟩, -⟩, -, ⟨a4, a5⟩, -⟩ := id hQ.1
  refine am_mth_of rfl rfl (v147_0 hp ?_)
  refine sc_in (d := D' + 3) (n := 9) hp (by omega) (fun x hx hx9 => am_back (v147_8 hp ?_)) (fun hb => am_thru rfl ?_)
  · subst hx
    rw [qSt_t hx9 (by omega)] at kk
    have hkk := kk I J hQ cQf.rfl' cQj.rfl'
    unfold aTd at hkk
    have e8 : x = 0 ∨ x = 1 ∨ x = 2 ∨ x = 3 ∨ x = 4 ∨ x = 5 ∨ x = 6 ∨ x = 7 ∨ x = 8 ∨ x = 9 := by omega
    rcases e8 with rfl | rfl | rfl | rfl | rfl | rfl | rfl | rfl | rfl | rfl
    · rw [if_pos (by decide)]
      exact ⟨r, hr2, hrs, by rw [b0]; exact hkk⟩
    · rw [if_neg (by decide), if_pos (by decide)]
      exact ⟨r, hr2, hrs, by rw [b1]; exact hkk⟩
    · rw [if_neg (by decide), if_neg (by decide), if_pos (by decide)]
      exact ⟨r, hr2, hrs, by rw [b2]; exact hkk⟩
    · rw [if_neg (by decide), if_neg (by decide), if_neg (by decide), if_pos (by decide)]
      exact ⟨r, hr2, hrs, by rw [b3]; exact hkk⟩
    · rw [if_neg (by decide), if_neg (by decide), if_neg (by decide), if_neg (by decide), if_pos (by decide)]
      exact ⟨r, hr2, hrs, by rw [b4]; exact hkk⟩
    · rw [if_neg (by decide), if_neg (by decide), if_neg (by decide), if_neg (by decide), if_neg (by decide), if_pos (by decide)]
      exact ⟨r, hr2, hrs, by rw [b5]; exact hkk⟩
    · rw [if_neg (by decide), if_neg (by decide), if_neg (by decide), if_neg (by decide), if_neg (by decide), if_neg (by decide), if_pos (by decide)]
      exact ⟨r, hr2, hrs, by rw [a5]; exact hkk⟩
    · rw [if_neg (by decide), if_neg (by decide), if_neg (by decide), if_neg (by decide), if_neg (by decide), if_neg (by decide), if_neg (by decide), if_pos (by decide)]
      refine sc_gk hp hr hF hG hs hQ (by omega) (fun I' J' a1 a2 a3 a4 => am_back (v147_123 hp ?_))
      have hkk2 := kk I' J' a1.q a2 a3
      unfold aTd at hkk2
      rw [if_neg (by decide), if_neg (by decide), if_pos rfl] at hkk2
      have hrow := a1.2.1.2.2 0 (Nat.zero_le _)
      refine sc_whole (d := D' + 7) (H := HHx w 3 T) hp rfl a1.2.1.1 ?_ (fun u hu => am_back (v147_130 hp ?_))
      · exact fun s hs => hrow.1 s hs
      · rw [bsV_eq hu] at hkk2
        exact hkk2
    · rw [if_neg (by decide), if_neg (by decide), if_neg (by decide), if_neg (by decide), if_neg (by decide), if_neg (by decide), if_neg (by decide), if_neg (by decide), if_pos (by decide), hQ.2.1.1]
      exact hkk
    · rw [if_neg (by decide), if_neg (by decide), if_neg (by decide), if_neg (by decide), if_neg (by decide), if_neg (by decide), if_neg (by decide), if_neg (by decide), if_neg (by decide), hrs16]
      exact hkk
  · rw [qSt_f hb] at kk
    exact kk
theorem sr_toldq (hp : am_PF Pf) (hG : WG w) (hs : sndW w) {I : am_I} (hQ : rQ I w T) {rs : Int32} (h35 : I 163 35 = rs) {D : Nat} (hD : 100 ≤ D) {x1 : Int32} (kk : rA P J Pf w T I cd1 (qSt 9 (aTd w T rs) x1)) : am_mth D 274 [.ref 163, .int x1] (am_SH, I, J, Pf) P := by
  obtain ⟨D', rfl⟩ : ∃ D', D = D' + 6 := ⟨D - 6, by omega⟩
  have h24 := hQ.2.2.1.2.1
  refine am_mth_of rfl rfl (v274_0 hp ?_)
  by_cases c1 : x1 < 0
  · rw [if_pos c1]
    rw [qSt_f (inW_lo (by omega) c1)] at kk
    exact kk
  rw [if_neg c1]
  by_cases c2 : (9 : Int32) < x1
  · rw [if_pos c2]
    rw [qSt_f (inW_hi (n := 9) (by omega) c2)] at kk
    exact kk
  rw [if_neg c2]
  obtain ⟨x, hx, hx9⟩ := inW_of (n := 9) (by omega) c1 c2
  subst hx
  rw [qSt_t hx9 (by omega)] at kk
  have hkk := hQ.z0 kk
  unfold aTd at hkk
  by_cases c6 : x < 6
  · rw [if_pos c6] at hkk
    rw [if_neg (fun z => absurd ((gle 6 (by omega) (by omega)).mp z) (by omega)), show (ni x).toNatClampNeg = x from ni_nat (by omega), congrFun hQ.1 x]
    exact ⟨ni_in (by omega) (by omega), hkk⟩
  · rw [if_neg c6] at hkk
    rw [if_pos ((gle 6 (by omega) (by omega)).mpr (by omega))]
    by_cases c7 : x = 7
    · subst c7
      rw [if_pos (by decide)]
      refine sr_gk hp hG hs hQ (by omega) (fun I' a1 a2 a3 a4 => am_back (v274_46 hp ?_))
      obtain ⟨b1, b2, b3, ⟨H, b4, b5, b6⟩, b7⟩ := a1.kn a2
      have hkk2 := kk I' a1 a3 a4
      unfold aTd at hkk2
      rw [if_neg (by decide), if_neg (by decide), if_pos rfl] at hkk2
      rw [show (0 : Int32) = ni 0 from rfl]
      refine sr_wholeof (d0 := D' + 2) hp (Nat.zero_le 3) b2 b4 b5 (by omega) (fun v hv => am_back (v274_51 hp ?_))
      rw [bsV_eq (v := v) (hv.of (fun j hj => ?_))] at hkk2
      · exact hkk2
      · constructor
        · rintro ⟨z1, z2⟩
          rw [b6 j 0 T.1 z1 (by omega) (by omega), if_pos ⟨Nat.zero_le _, Nat.le_refl _⟩] at z2
          exact ⟨z1, z2⟩
        · rintro ⟨z1, z2⟩
          refine ⟨z1, ?_⟩
          rw [b6 j 0 T.1 z1 (by omega) (by omega), if_pos ⟨Nat.zero_le _, Nat.le_refl _⟩]
          exact z2
    · rw [if_neg (fun z => c7 ((leq 7 (by omega) (by omega)).mp z))]
      have hly := (lyW_least hG hs).2.2
      have LP : ∀ (m k : Nat), 8 - k = m → k ≤ 8 → am_go none (D' + 5) 274 (56, [some (.ref 163), some (.int (ni x)), some (.int (ni (mxL (lyW w 64) k))), some (.int (ni k))], [], (am_SH, am_u I 163 0 0, J, Pf), 0, 0) P := by
        intro m
        induction m with
        | zero =>
          intro k hm hk
          have : k = 8 := by omega
          subst this
          refine v274_56 hp ?_
          rw [if_pos (show (8 : Int32) ≤ ni 8 from by decide)]
          by_cases e6 : x = 6
          · subst e6
            rw [if_pos rfl] at hkk
            rw [if_pos (by decide)]; exact hkk
          · rw [if_neg e6, if_neg c7] at hkk
            rw [if_neg (fun z => e6 ((leq 6 (by omega) (by omega)).mp z))]
            by_cases e8 : x = 8
            · subst e8
              rw [if_pos rfl] at hkk
              rw [if_pos (by decide), am_u_nq (by omega), hQ.2.2.1.1]; exact hkk
            · rw [if_neg e8] at hkk
              rw [if_neg (fun z => e8 ((leq 8 (by omega) (by omega)).mp z)), am_u_nq (by omega), h35]; exact hkk
        | succ m ih =>
          intro k hm hk
          have l7 := hly k (by omega)
          have m7 : mxL (lyW w 64) k ≤ 7 := mxL_le k (fun s hs => hly s (by omega))
          have nx := ih (k + 1) (by omega) (by omega)
          rw [show mxL (lyW w 64) (k + 1) = (if mxL (lyW w 64) k < lyW w 64 k then lyW w 64 k else mxL (lyW w 64) k) from rfl] at nx
          refine v274_56 hp ?_
          rw [if_neg (fun z => absurd ((gle 8 (by omega) (by omega)).mp z) (by omega)), show (ni k).toNatClampNeg = k from ni_nat (by omega), am_u_nq (by omega), hQ.2.1 k (by omega), ni_p1]
          refine ⟨ni_in (by omega) (by omega), ?_⟩
          by_cases c : mxL (lyW w 64) k < lyW w 64 k
          · rw [if_pos c] at nx
            rw [if_neg (fun z => absurd ((ni_le (by omega) (by omega)).mp z) (by omega))]
            exact ⟨ni_in (by omega) (by omega), nx⟩
          · rw [if_neg c] at nx
            rw [if_pos ((ni_le (by omega) (by omega)).mpr (by omega))]
            exact nx
      rw [show (0 : Int32) = ni 0 from rfl]
      exact LP _ 0 rfl (Nat.zero_le _)
end TLD
